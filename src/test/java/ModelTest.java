/** WishSea against the Model: the same calls on both, always the same ones. */
public final class ModelTest {
    private static final Checks CHECKS = new Checks();

    private final WishSea sea = new WishSea();
    private final Model model = new Model();
    private final Texts texts;
    private final String run;
    private int fine = 0;

    private ModelTest(int number) {
        texts = new Texts(number);
        run = "run " + number + " ";
    }

    public static void main(String[] args) {
        int runs = args.length > 0 ? Integer.parseInt(args[0]) : 400;
        int from = args.length > 1 ? Integer.parseInt(args[1]) : 0;
        int fine = 0;
        CHECKS.says("Nothing is promised beyond the answers and state changes described above,");
        for (int number = from; number < from + runs; number++) {
            ModelTest test = new ModelTest(number);
            test.calls();
            fine += test.fine;
        }
        CHECKS.due("enough SHORES without FAULT: " + fine, fine > runs / 2, true);
        CHECKS.end();
    }

    private void put(int... bytes) {
        Checks.put(sea, bytes);
        for (int at = 0; at < bytes.length; at += 20) {
            int[] numbers = new int[5];
            for (int i = 0; i < 20; i++) {
                numbers[i / 4] = numbers[i / 4] << 8 | (at + i < bytes.length ? bytes[at + i] : 0);
            }
            model.feed(numbers[0], numbers[1], numbers[2], numbers[3], numbers[4]);
        }
        model.end(bytes.length);
    }

    private void due(String call, long got, long want) {
        CHECKS.due(run + call, got, want);
    }

    private void due(String call, boolean got, boolean want) {
        CHECKS.due(run + call, got, want);
    }

    private void calls() {
        newShore(texts.any());
        newShore(texts.fine());
        for (int i = 0; i < 40; i++) {
            act(texts.below(40));
            if (texts.below(4) == 0) {
                ask();
            }
        }
        askAll();
    }

    private void newShore(String any) {
        String text = any.length() > 1600 ? any.substring(0, 1600) : any;
        put(Checks.bytesOf(text));
        int want = model.shore();
        fine += want >= 0 ? 1 : 0;
        due("shore " + text, sea.shore(), want);
        due("fault(0) of " + text, sea.fault(0), model.fault(0));
        due("fault(1) of " + text, sea.fault(1), model.fault(1));
    }

    private int someWish() {
        return texts.below(8) == 0 ? texts.below(14) - 1 : texts.below(Math.max(1, model.has(1)));
    }

    private int[] bytes(int most, int nightOften) {
        int[] bytes = new int[texts.below(most)];
        for (int i = 0; i < bytes.length; i++) {
            bytes[i] = texts.below(nightOften) == 0 ? 255 : texts.below(Math.max(1, model.has(1)));
            if (texts.below(200) == 0) {
                bytes[i] = texts.below(256);
            }
        }
        return bytes;
    }

    /** WISHES that MAY be said one behind the other, mostly. */
    private int[] goodRow(int most) {
        int[] bytes = bytes(most, 1000);
        return texts.below(3) == 0 ? bytes : java.util.Arrays.stream(bytes).filter(w -> model.wish(w, 5) == 0).distinct().toArray();
    }

    private void act(int kind) {
        if (kind < 18) {
            int wish = someWish();
            due("say " + wish, sea.say(wish), model.say(wish));
        } else if (kind < 22) {
            due("night", sea.night(), model.night());
        } else if (kind < 25) {
            int n = texts.below(3) == 0 ? texts.below(44) - 1 : 1 + texts.below(5);
            due("days " + n, sea.days(n), model.days(n));
        } else if (kind < 29) {
            due("undo", sea.undo(), model.undo());
        } else if (kind < 30) {
            int seed = texts.below(5) == 0 ? -texts.below(1000) : texts.below(2147483647);
            due("seed", sea.seed(seed), model.seed(seed));
        } else if (kind < 32) {
            put(bytes(texts.below(9) == 0 ? 44 : 10, 4));
            due("row", sea.row(), model.row());
        } else if (kind < 34) {
            put(goodRow(texts.below(9) == 0 ? 15 : 5));
            due("stop", sea.stop(), model.stop());
        } else if (kind < 36) {
            fall();
        } else if (kind < 38) {
            image();
        } else if (kind < 39 && texts.below(3) == 0) {
            newShore(texts.any());
        } else {
            int n = texts.below(5) - 3;
            due("end " + n, sea.end(n), model.end(n));
            due("feed", sea.feed(1, 2, 3, 4, 5), model.feed(1, 2, 3, 4, 5));
            due("end 0", sea.end(0), model.end(0));
        }
    }

    private void fall() {
        int rows = texts.below(12) == 0 ? texts.below(23) : texts.below(4);
        int[] bytes = new int[rows * 3 + (texts.below(9) == 0 ? 1 : 0)];
        for (int i = 0; i + 2 < bytes.length; i += 3) {
            int dark = texts.below(3) == 0 ? texts.below(65536) : texts.below(1010);
            bytes[i] = dark / 256;
            bytes[i + 1] = dark % 256;
            bytes[i + 2] = texts.below(15) == 0 ? texts.below(256) : dark > 100 + texts.below(800) ? 1 : 0;
        }
        put(bytes);
        due("falls", sea.falls(), model.falls());
    }

    private void image() {
        due("image", sea.image(), model.image());
        int[] bytes = new int[9];
        for (int k = -1; k <= 9; k++) {
            due("octet " + k, sea.octet(k), model.octet(k));
            if (k >= 0 && k < 9) {
                bytes[k] = model.octet(k);
            }
        }
        int kind = texts.below(4);
        if (kind == 0) {
            bytes[texts.below(9)] = texts.below(256);
        } else if (kind == 1) {
            bytes[2 * texts.below(4)] = texts.below(50);
            bytes[2 * texts.below(4) + 1] = texts.below(256);
        }
        if (kind != 0) {
            int check = 97;
            for (int i = 0; i < 8; i++) {
                check = (5 * check + bytes[i]) % 251;
            }
            bytes[8] = check;
        }
        if (texts.below(2) == 0) {
            put(texts.below(12) == 0 ? java.util.Arrays.copyOf(bytes, 8 + 2 * texts.below(2)) : bytes);
            due("on", sea.on(), model.on());
        }
    }

    private void ask() {
        for (int what = -1; what <= 14; what++) {
            due("has " + what, sea.has(what), model.has(what));
        }
        for (int wish = 0; wish < model.has(1); wish++) {
            due("why " + wish, sea.wish(wish, 5), model.wish(wish, 5));
            due("darker by " + wish, sea.wish(wish, 6), model.wish(wish, 6));
        }
        int things = texts.below(1 << model.has(0) + 1);
        int what = texts.below(21) - 1;
        due("fewest " + things + " " + what, sea.fewest(things, what), model.fewest(things, what));
        due("most 8 " + what, sea.most(8, what), model.most(8, what));
    }

    private void askAll() {
        ask();
        for (int k = -1; k <= 13; k++) {
            due("went " + k, sea.went(k), model.went(k));
            due("value " + k, sea.value(k), model.value(k));
            due("ladder " + k, sea.ladder(k), model.ladder(k));
            due("ends " + k, sea.ends(k), model.ends(k));
            due("before " + k, sea.before(k), model.before(k));
            due("bears " + k, sea.bears(k), model.bears(k));
            due("status " + k, sea.status(k), model.status(k));
            for (int what = -1; what <= 8; what++) {
                due("thing " + k + " " + what, sea.thing(k, what), model.thing(k, what));
                due("wish " + k + " " + what, sea.wish(k, what), model.wish(k, what));
                due("letter 0 " + k + " " + what, sea.letter(0, k, what), model.letter(0, k, what));
                due("letter 1 " + k + " " + what, sea.letter(1, k, what), model.letter(1, k, what));
                due("most " + k + " " + what, sea.most(k, what), model.most(k, what));
            }
        }
        for (int k = -1; k <= 51; k++) {
            for (int what = -1; what <= 4; what++) {
                due("kept " + k + " " + what, sea.kept(k, what), model.kept(k, what));
            }
        }
        for (int n = -1; n <= (model.has(1) > 7 ? 3 : 5); n++) {
            for (int k = -2; k <= 5; k++) {
                due("rivals " + n + " " + k, sea.rivals(n, k), model.rivals(n, k));
            }
        }
        for (int things = 0; things < 1 << Math.min(4, model.has(0)); things++) {
            for (int what : new int[] {0, 1, 2, 10, 11, 12, 13, 17, 18}) {
                due("fewest " + things + " " + what, sea.fewest(things, what), model.fewest(things, what));
            }
        }
    }
}
