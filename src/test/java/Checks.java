/** Counts what is not due, each beside the sentence of the document that asks for it; puts texts and bytes on a tape. */
final class Checks {
    private int wrong = 0;
    private int dues = 1;
    private String sentence = "";

    /** What is due from now on is what this sentence of ../shared/DOC.md asks for. */
    void says(String words) {
        beginSentence(words);
        if (!Document.TEXT.contains(words)) {
            blame("not in the document");
        }
    }

    /** Likewise of another page: a rule of ../shared/LANGUAGE.md, README.md. */
    void about(String page) {
        beginSentence(page);
    }

    private void beginSentence(String words) {
        if (dues == 0) {
            blame("nothing is looked at");
        }
        sentence = words;
        dues = 0;
    }

    private void blame(String what) {
        wrong++;
        System.out.println("\"" + sentence + "\": " + what);
    }

    void due(String what, long got, long want) {
        dues++;
        if (sentence.isEmpty()) {
            blame("no sentence asks for " + what);
        }
        if (got != want) {
            blame(what + " answered " + got + ", due is " + want);
        }
    }

    void due(String what, boolean got, boolean want) {
        due(what, got ? 1 : 0, want ? 1 : 0);
    }

    void end() {
        beginSentence("the end");
        System.out.println(wrong == 0 ? "all answers are as due" : wrong + " answers are not as due");
        if (wrong != 0) {
            System.exit(1);
        }
    }

    static int[] bytesOf(String text) {
        int[] bytes = new int[text.length()];
        for (int i = 0; i < bytes.length; i++) {
            bytes[i] = text.charAt(i);
        }
        return bytes;
    }

    /** Puts the bytes on the tape, which must be empty. */
    static void put(WishSea sea, int... bytes) {
        for (int at = 0; at < bytes.length; at += 20) {
            int[] numbers = new int[5];
            for (int i = 0; i < 20; i++) {
                int b = at + i < bytes.length ? bytes[at + i] : 0;
                numbers[i / 4] = numbers[i / 4] << 8 | b;
            }
            sea.feed(numbers[0], numbers[1], numbers[2], numbers[3], numbers[4]);
        }
        sea.end(bytes.length);
    }

    static int shore(WishSea sea, String text) {
        put(sea, bytesOf(text));
        return sea.shore();
    }

    static WishSea with(String text) {
        WishSea sea = new WishSea();
        if (shore(sea, text) < 0) {
            throw new IllegalStateException("fault " + sea.fault(0) + " at " + sea.fault(1) + " in " + text);
        }
        return sea;
    }

    static int row(WishSea sea, int... steps) {
        put(sea, steps);
        return sea.row();
    }

    static int stop(WishSea sea, int... wishes) {
        put(sea, wishes);
        return sea.stop();
    }

    static int falls(WishSea sea, int... bytes) {
        put(sea, bytes);
        return sea.falls();
    }

    static boolean on(WishSea sea, int... bytes) {
        put(sea, bytes);
        return sea.on();
    }

    /** The text has this FAULT at this place, and nothing of it counts. */
    void fault(String text, int kind, int place) {
        WishSea sea = with("thing old worth 3 rhymes 1;first old;");
        due("shore of " + text, shore(sea, text), WishSea.NONE);
        due("fault(0) of " + text, sea.fault(0), kind);
        due("fault(1) of " + text, sea.fault(1), place);
        due("status(1) of " + text, sea.status(1), 1);
        due("has(3) behind " + text, sea.has(3), 3);
    }

    void fine(String text, int statements) {
        WishSea sea = new WishSea();
        due("shore of " + text, shore(sea, text), statements);
        due("fault(0) of " + text, sea.fault(0), 0);
        due("fault(1) of " + text, sea.fault(1), WishSea.NONE);
    }
}
