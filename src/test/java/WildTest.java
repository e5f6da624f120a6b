/** Calls with any numbers in any state: none throws, and two objects with the same calls answer the same. */
public final class WildTest {
    private static final int[] NUMBERS = {-2147483648, -1000000000, -256, -2, -1, 0, 1, 2, 3, 4, 5, 6, 7, 8, 9, 10, 11, 12, 17, 18, 19,
        20, 39, 40, 41, 49, 50, 255, 256, 1023, 1024, 1600, 9999, 10000, 65535, 1000000, 2147483646, 2147483647};

    public static void main(String[] args) {
        Checks checks = new Checks();
        checks.says("An object is used for at most 512 calls after it has been made;");
        for (int run = 0; run < 400; run++) {
            WishSea one = new WishSea();
            WishSea two = new WishSea();
            Texts first = new Texts(run);
            Texts second = new Texts(run);
            long sum = 0;
            for (int i = 0; i < 512; i++) {
                long got = call(one, first);
                sum += got;
                checks.due("run " + run + " call " + i, call(two, second), got);
            }
            checks.due("something answered in run " + run, sum != 0, true);
        }
        checks.end();
    }

    private static int number(Texts texts) {
        return texts.below(3) == 0 ? NUMBERS[texts.below(NUMBERS.length)] : texts.below(6);
    }

    private static long tape(WishSea x, Texts texts, int kind) {
        x.end(0);
        if (kind == 0) {
            String text = texts.any();
            Checks.put(x, Checks.bytesOf(text.length() > 1600 ? text.substring(0, 1600) : text));
            return x.shore();
        }
        int[] bytes = new int[texts.below(kind == 1 ? 1600 : kind == 2 ? 70 : 11)];
        for (int i = 0; i < bytes.length; i++) {
            bytes[i] = kind == 1 ? texts.below(256) : texts.below(4) == 0 ? 255 : texts.below(5);
        }
        Checks.put(x, bytes);
        switch (texts.below(5)) {
            case 0:
                return x.shore();
            case 1:
                return x.row();
            case 2:
                return x.falls();
            case 3:
                return x.stop();
            default:
                return x.on() ? 1 : 0;
        }
    }

    private static long call(WishSea x, Texts texts) {
        int a = number(texts);
        int b = number(texts);
        int c = number(texts);
        switch (texts.below(33)) {
            case 0:
                return x.feed(a, b, c, a, b);
            case 1:
                return x.end(a) ? 1 : 0;
            case 2:
                return tape(x, texts, texts.below(4));
            case 3:
                return x.fault(a);
            case 4:
                return x.has(a);
            case 5:
                return x.letter(a, b, c);
            case 6:
                return x.thing(a, b);
            case 7:
                return x.wish(a, b);
            case 8:
                return x.say(a);
            case 9:
                return x.night();
            case 10:
                return x.days(a);
            case 11:
                return x.undo() ? 1 : 0;
            case 12:
                return x.seed(a) ? 1 : 0;
            case 13:
                return x.kept(a, b);
            case 14:
                return x.row();
            case 15:
                return x.went(a);
            case 16:
                return x.ladder(a);
            case 17:
                return x.fewest(a, b);
            case 18:
                return x.most(a, b);
            case 19:
                return x.ends(a);
            case 20:
                return x.falls();
            case 21:
                return x.bears(a);
            case 22:
                return x.stop();
            case 23:
                return x.value(a);
            case 24:
                return texts.below(3) == 0 ? x.rivals(a, b) : 0;
            case 25:
                return x.before(a);
            case 26:
                return x.image();
            case 27:
                return x.octet(a);
            case 28:
                return x.on() ? 1 : 0;
            case 29:
                return x.status(a);
            case 30:
                return tape(x, texts, 0);
            case 31:
                return x.say(a);
            default:
                return tape(x, texts, 3);
        }
    }
}
