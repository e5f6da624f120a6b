/** Pieces of texts that tests of boundary cases are made of. */
final class Shores {
    static final int MIN = -2147483648;
    static final int MAX = 2147483647;
    /** Numbers that no question of any call goes with. */
    static final int[] FAR = {MIN, MIN + 1, -1000000000, -256, -2, 1000, 65536, 1000000000, MAX - 1, MAX};

    private Shores() { }

    /** That many THINGS a, b, .. of worth 1 and rhyme 1, with a tail behind each. */
    static String things(int count, String tail) {
        StringBuilder text = new StringBuilder();
        for (int i = 0; i < count; i++) {
            text.append("thing ").append(letter(i)).append(" worth 1 rhymes 1").append(tail).append(";");
        }
        return text.toString();
    }

    static String things(int count) {
        return things(count, "");
    }

    /** Each of that many THINGS is had at first. */
    static String firsts(int count) {
        StringBuilder text = new StringBuilder();
        for (int i = 0; i < count; i++) {
            text.append("first ").append(letter(i)).append(";");
        }
        return text.toString();
    }

    /** That many WISHES wa, wb, .. of no words, that give the THINGS in turn. */
    static String wishes(int count, int things) {
        StringBuilder text = new StringBuilder();
        for (int i = 0; i < count; i++) {
            text.append("wish w").append(letter(i)).append(" words 0 gives ").append(letter(i % things)).append(";");
        }
        return text.toString();
    }

    static char letter(int i) {
        return (char) ('a' + i);
    }

    /** The names of the THINGS from the first one to the one ahead of the last, a blank ahead of each. */
    static String names(int first, int last) {
        StringBuilder text = new StringBuilder();
        for (int i = first; i < last; i++) {
            text.append(" ").append(letter(i));
        }
        return text.toString();
    }

    static int room(String sum) {
        return Checks.with("room " + sum + ";").has(7);
    }

    static int[] steps(int count, int step) {
        int[] steps = new int[count];
        java.util.Arrays.fill(steps, step);
        return steps;
    }

    /** An object whose state an image has told. */
    static WishSea at(String text, int day, int said, int sea, int things) {
        WishSea x = Checks.with(text);
        if (!Checks.on(x, ImageTest.bytes(day, said, sea, things))) {
            throw new IllegalStateException("no image of " + text);
        }
        return x;
    }
}
