/** The boundary cases of images and refusals: promises 28 to 31, and AN IMAGE's terms. */
final class ImageEdges {
    private static final String A = "thing a worth 1 rhymes 1;";
    private static final String W = "wish w words 0 gives a;";

    private final Edges e;

    private ImageEdges(Edges e) {
        this.e = e;
    }

    static void run(Edges e) {
        ImageEdges edges = new ImageEdges(e);
        e.under("## Terms", "## Promise 1:");
        edges.anImage();
        edges.faceOfTerms();
        edges.image();
        edges.octet();
        edges.on();
        edges.status();
        edges.calls();
    }

    private void octets(WishSea x, int... want) {
        x.image();
        for (int k = 0; k < want.length; k++) {
            e.due("octet " + k, x.octet(k), want[k]);
        }
    }

    private void anImage() {
        e.says("AN IMAGE: DAY (two bytes, the higher first), how many were said this DAY (two bytes), the sea (two bytes), THINGS as "
                + "bits (two bytes); last a byte: all ahead from 97 on, c = (5 c + it) mod 251.");
        e.edge("the least of all", () -> octets(new WishSea(), 0, 0, 0, 0, 0, 0, 0, 0, 167));
        e.edge("255 of each: one byte", () -> octets(Shores.at(Shores.things(8) + "bears 999;", 255, 255, 255, 255),
                0, 255, 0, 255, 0, 255, 0, 255, check(0, 255, 0, 255, 0, 255, 0, 255)));
        e.edge("256 of each: two bytes", () -> octets(Shores.at(Shores.things(9) + "bears 999;", 256, 256, 256, 256),
                1, 0, 1, 0, 1, 0, 1, 0, check(1, 0, 1, 0, 1, 0, 1, 0)));
        e.edge("the most of all", () -> octets(Shores.at(Shores.things(10) + "bears 999;", 9999, 9999, 999, 1023),
                39, 15, 39, 15, 3, 231, 3, 255, check(39, 15, 39, 15, 3, 231, 3, 255)));
        e.edge("10000 said", () -> {
            WishSea x = Shores.at(A + W, 0, 9999, 0, 0);
            x.say(0);
            octets(x, 0, 0, 39, 16, 0, 0, 0, 1, check(0, 0, 39, 16, 0, 0, 0, 1));
        });
        e.edge("a last byte of 0, where mod 251 wraps around", () -> {
            int day = dayOfCheck(0);
            octets(Shores.at("", day, 0, 0, 0), day / 256, day % 256, 0, 0, 0, 0, 0, 0, 0);
        });
        e.edge("a last byte of 250", () -> {
            int day = dayOfCheck(250);
            octets(Shores.at("", day, 0, 0, 0), day / 256, day % 256, 0, 0, 0, 0, 0, 0, 250);
        });
    }

    private static int check(int... bytes) {
        int c = 97;
        for (int b : bytes) {
            c = (5 * c + b) % 251;
        }
        return c;
    }

    private static int dayOfCheck(int want) {
        int day = 0;
        while (check(day / 256, day % 256, 0, 0, 0, 0, 0, 0) != want) {
            day++;
        }
        return day;
    }

    private void faceOfTerms() {
        e.says("The constants: `NONE = -1`: None; refused.");
        e.edge("NONE", () -> e.due("NONE", WishSea.NONE, -1));
        e.says("`NOTHING = -1000000000`: Told where -1 may be a number.");
        e.edge("NOTHING", () -> e.due("NOTHING", WishSea.NOTHING, -1000000000));
        e.plain("Ahead of the calls `say`, `night`, `days`, `undo`, `seed`, `kept` the interface says: ---- acts.");
        e.plain("Ahead of the calls `row`, `went`, `ladder`, `fewest`, `most`, `ends` the interface says: ---- rows, ladders.");
        e.plain("Ahead of the calls `falls`, `bears`, `stop`, `value` the interface says: ---- how much it bears, when to stop.");
        e.plain("Ahead of the calls `rivals`, `before` the interface says: ---- neighbours, before.");
        e.plain("Ahead of the calls `image`, `octet`, `on`, `status` the interface says: ---- images, refusals.");
    }

    private void image() {
        e.promise(28, "int image()");
        e.says("AN IMAGE is written: how many bytes.");
        e.edge("of a new object", () -> e.due("image", new WishSea().image(), 9));
        e.edge("of the most", () -> e.due("image", Shores.at(Shores.things(10) + "bears 999;", 9999, 9999, 999, 1023).image(), 9));
        e.edge("the tape stays as it is", () -> {
            WishSea x = new WishSea();
            x.feed(0, 0, 0, 0, 0);
            x.image();
            e.due("feed", x.feed(0, 0, 0, 0, 0), 40);
        });
        e.edge("nothing else changes", () -> {
            WishSea x = Checks.with(A + W + "dark 5;");
            x.say(0);
            x.image();
            e.due("ACTS, KEPT", x.has(11) + x.has(12), 2);
            e.due("sea", x.has(4), 5);
        });
    }

    private void octet() {
        e.promise(29, "int octet(int k)");
        e.says("Byte k of the latest image();");
        e.edge("k 0", () -> e.due("octet", imaged().octet(0), 39));
        e.edge("k 8", () -> e.due("octet", imaged().octet(8), check(39, 15, 0, 1, 0, 0, 0, 1)));
        e.edge("the latest, when two were written", () -> {
            WishSea x = Checks.with(A + W + "dark 5;");
            x.image();
            x.say(0);
            x.image();
            e.due("octet", x.octet(5), 5);
        });
        e.edge("not as it is since", () -> {
            WishSea x = Checks.with(A + W + "dark 5;");
            x.image();
            x.say(0);
            e.due("octet", x.octet(5), 0);
        });
        e.edge("a new SHORE, an image gone on from and a refused one leave it", () -> {
            WishSea x = imaged();
            Checks.shore(x, A);
            e.due("octet", x.octet(0), 39);
            Checks.on(x, ImageTest.bytes(5, 0, 0, 0));
            e.due("octet", x.octet(0), 39);
            Checks.on(x, 1, 2, 3);
            e.due("octet", x.octet(0), 39);
        });
        e.says("NONE when there is none such.");
        e.edge("ahead of any", () -> {
            for (int k = 0; k < 9; k++) {
                e.due("octet " + k, Checks.with(A).octet(k), -1);
            }
        });
        e.edge("k -1", () -> e.due("octet", imaged().octet(-1), -1));
        e.edge("k 9", () -> e.due("octet", imaged().octet(9), -1));
        e.edge("far ones", () -> {
            for (int far : Shores.FAR) {
                e.due("octet " + far, imaged().octet(far), -1);
            }
        });
    }

    private static WishSea imaged() {
        WishSea x = Shores.at(A + W, 9999, 0, 0, 0);
        x.say(0);
        x.image();
        return x;
    }

    private void on() {
        e.promise(30, "boolean on()");
        e.says("The tape (it goes, refused or not) is AN IMAGE of this SHORE: true, all is as it tells, nothing is KEPT, no ACT can "
                + "be undone;");
        e.edge("it goes", () -> {
            WishSea x = Shores.at(A, 1, 0, 0, 0);
            e.due("gone", x.end(1), false);
        });
        e.edge("the least of all", () -> goesOn(A, 0, 0, 0, 0));
        e.edge("the most of all", () -> goesOn(Shores.things(10) + "bears 999;", 9999, 9999, 999, 1023));
        e.edge("without a SHORE", () -> goesOn("", 9999, 9999, 100, 0));
        e.edge("nothing is KEPT, no ACT", () -> {
            WishSea x = Checks.with(A + W);
            x.say(0);
            x.night();
            e.due("on", Checks.on(x, ImageTest.bytes(1, 0, 0, 1)), true);
            e.due("KEPT", x.has(11), 0);
            e.due("kept", x.kept(0, 0), -1);
            e.due("how often", x.wish(0, 7), 0);
            e.due("ACTS", x.has(12), 0);
            e.due("undo", x.undo(), false);
        });
        e.edge("the seed, FALLS, the latest row() and stop() stay", () -> {
            WishSea x = Checks.with(A + W);
            x.seed(77);
            Checks.falls(x, 0, 9, 0);
            Checks.row(x, 255, 255);
            Checks.stop(x, 0);
            e.due("on", Checks.on(x, ImageTest.bytes(1, 0, 0, 1)), true);
            e.due("seed", x.has(13), 77);
            e.due("bears", x.bears(1), 9);
            e.due("went", x.went(3), 2);
            e.due("value", x.value(1), 991);
        });
        e.edge("written, and gone on from", () -> {
            WishSea x = Checks.with(A + W + "dark 5;");
            x.say(0);
            x.night();
            x.image();
            int[] bytes = new int[9];
            for (int k = 0; k < 9; k++) {
                bytes[k] = x.octet(k);
            }
            x.night();
            e.due("on", Checks.on(x, bytes), true);
            e.due("DAY", x.has(6), 1);
            e.due("sea", x.has(4), 5);
        });
        e.says("false, refused (5), all staying, if it is none such (DAY 9999 at most, 9999 said at most, a sea no more than the fish "
                + "bears, THINGS that there are).");
        e.edge("DAY 9999", () -> goesOn(A, 9999, 0, 0, 0));
        e.edge("DAY 10000", () -> noImage(ImageTest.bytes(10000, 0, 0, 0)));
        e.edge("DAY 65535", () -> noImage(ImageTest.bytes(65535, 0, 0, 0)));
        e.edge("9999 said", () -> goesOn(A, 0, 9999, 0, 0));
        e.edge("10000 said", () -> noImage(ImageTest.bytes(0, 10000, 0, 0)));
        e.edge("65535 said", () -> noImage(ImageTest.bytes(0, 65535, 0, 0)));
        e.edge("a sea of what it bears", () -> goesOn(A + "bears 50;", 0, 0, 50, 0));
        e.edge("a sea of one more than it bears", () -> noImage(ImageTest.bytes(0, 0, 51, 0)));
        e.edge("a sea of 65535", () -> noImage(ImageTest.bytes(0, 0, 65535, 0)));
        e.edge("a sea of 100 without bears", () -> goesOn(A, 0, 0, 100, 0));
        e.edge("a sea of 101 without bears", () -> {
            WishSea x = Checks.with(A);
            e.due("on", Checks.on(x, ImageTest.bytes(0, 0, 101, 0)), false);
        });
        e.edge("the last THING", () -> goesOn(Shores.things(10), 0, 0, 0, 512));
        e.edge("one behind the last THING", () -> noImage(ImageTest.bytes(0, 0, 0, 4)));
        e.edge("an eleventh THING of ten", () -> {
            WishSea x = Checks.with(Shores.things(10));
            e.due("on", Checks.on(x, ImageTest.bytes(0, 0, 0, 1024)), false);
        });
        e.edge("a first THING of none", () -> {
            WishSea x = new WishSea();
            e.due("on", Checks.on(x, ImageTest.bytes(0, 0, 0, 1)), false);
        });
        e.edge("a sixteenth THING", () -> noImage(ImageTest.bytes(0, 0, 0, 32768)));
        e.edge("no bytes", () -> noImage());
        e.edge("8 bytes", () -> noImage(java.util.Arrays.copyOf(ImageTest.bytes(0, 0, 0, 0), 8)));
        e.edge("10 bytes", () -> noImage(java.util.Arrays.copyOf(ImageTest.bytes(0, 0, 0, 0), 10)));
        e.edge("a full tape", () -> noImage(java.util.Arrays.copyOf(ImageTest.bytes(0, 0, 0, 0), 1600)));
        e.edge("a last byte of one more", () -> noImage(0, 0, 0, 0, 0, 0, 0, 0, 168));
        e.edge("a last byte of one less", () -> noImage(0, 0, 0, 0, 0, 0, 0, 0, 166));
        e.edge("a last byte that is like it mod 251", () -> {
            int day = dayOfCheck(0);
            noImage(day / 256, day % 256, 0, 0, 0, 0, 0, 0, 251);
        });
        for (int k = 0; k < 8; k++) {
            int changed = k;
            e.edge("byte " + k + " changed", () -> {
                int[] bytes = ImageTest.bytes(1, 1, 1, 1);
                bytes[changed]++;
                noImage(bytes);
            });
        }
        e.edge("8 bytes that a ninth one follows which was cut off", () -> {
            WishSea x = Checks.with(A);
            Checks.put(x, ImageTest.bytes(0, 0, 0, 0));
            x.end(8);
            e.due("on", x.on(), false);
        });
    }

    private void goesOn(String text, int day, int said, int sea, int things) {
        WishSea x = Checks.with(text);
        e.due("on", Checks.on(x, ImageTest.bytes(day, said, sea, things)), true);
        e.due("had", x.has(2), things);
        e.due("sea", x.has(4), sea);
        e.due("said", x.has(5), said);
        e.due("DAY", x.has(6), day);
        e.due("status(5)", x.status(5), 0);
    }

    private void noImage(int... bytes) {
        WishSea x = Checks.with(A + "thing b worth 1 rhymes 1;wish w words 0 gives b;first a;dark 7;bears 50;");
        x.night();
        x.say(0);
        e.due("on", Checks.on(x, bytes), false);
        e.due("status(5)", x.status(5), 1);
        e.due("gone", x.end(1), false);
        e.due("had", x.has(2), 3);
        e.due("sea", x.has(4), 7);
        e.due("said", x.has(5), 1);
        e.due("DAY", x.has(6), 1);
        e.due("KEPT", x.has(11), 1);
        e.due("ACTS", x.has(12), 2);
    }

    private void status() {
        e.promise(31, "int status(int what)");
        e.says("How many were refused: 0 feed(), end(); 1 shore(); 2 say(); 3 night(), days(); 4 undo(); 5 seed(), row(), falls(), "
                + "stop(), on().");
        e.edge("none", () -> refusals(new WishSea(), 0, 0, 0, 0, 0, 0));
        e.edge("feed()", () -> {
            WishSea x = new WishSea();
            for (int i = 0; i < 82; i++) {
                x.feed(0, 0, 0, 0, 0);
            }
            refusals(x, 2, 0, 0, 0, 0, 0);
        });
        e.edge("end()", () -> {
            WishSea x = new WishSea();
            x.end(1);
            x.end(-1);
            refusals(x, 2, 0, 0, 0, 0, 0);
        });
        e.edge("shore()", () -> {
            WishSea x = new WishSea();
            Checks.shore(x, "calm");
            refusals(x, 0, 1, 0, 0, 0, 0);
        });
        e.edge("say()", () -> {
            WishSea x = Checks.with(A + W + "room 0;");
            x.say(0);
            x.say(1);
            refusals(x, 0, 0, 2, 0, 0, 0);
        });
        e.edge("night()", () -> {
            WishSea x = Shores.at("", 9999, 0, 0, 0);
            x.night();
            refusals(x, 0, 0, 0, 1, 0, 0);
        });
        e.edge("days()", () -> {
            WishSea x = new WishSea();
            x.days(0);
            x.days(41);
            refusals(x, 0, 0, 0, 2, 0, 0);
        });
        e.edge("undo()", () -> {
            WishSea x = new WishSea();
            x.undo();
            refusals(x, 0, 0, 0, 0, 1, 0);
        });
        e.edge("seed()", () -> {
            WishSea x = new WishSea();
            x.seed(-1);
            refusals(x, 0, 0, 0, 0, 0, 1);
        });
        e.edge("row()", () -> {
            WishSea x = new WishSea();
            Checks.row(x, 0);
            refusals(x, 0, 0, 0, 0, 0, 1);
        });
        e.edge("falls()", () -> {
            WishSea x = new WishSea();
            x.falls();
            refusals(x, 0, 0, 0, 0, 0, 1);
        });
        e.edge("stop()", () -> {
            WishSea x = new WishSea();
            Checks.stop(x, 0);
            refusals(x, 0, 0, 0, 0, 0, 1);
        });
        e.edge("on()", () -> {
            WishSea x = new WishSea();
            x.on();
            refusals(x, 0, 0, 0, 0, 0, 1);
        });
        e.edge("a row that ends at once, and ONE TOO MANY, are no refusals", () -> {
            WishSea x = Checks.with(A + W + "dark 2;bears 1;");
            Checks.row(x, 0);
            x.say(0);
            refusals(x, 0, 0, 0, 0, 0, 0);
        });
        e.edge("questions for none such are no refusals", () -> {
            WishSea x = new WishSea();
            x.has(-1);
            x.letter(0, 0, 0);
            x.thing(0, 0);
            x.wish(0, 0);
            x.fault(9);
            x.kept(0, 0);
            x.went(0);
            x.ladder(9);
            x.fewest(1, 0);
            x.most(9, 0);
            x.ends(0);
            x.bears(9);
            x.value(0);
            x.rivals(9, 9);
            x.before(9);
            x.octet(0);
            x.status(9);
            refusals(x, 0, 0, 0, 0, 0, 0);
        });
        e.edge("undo() and a new SHORE leave the counts", () -> {
            WishSea x = new WishSea();
            x.say(0);
            x.night();
            x.undo();
            x.shore();
            Checks.on(x, ImageTest.bytes(0, 0, 0, 0));
            refusals(x, 0, 0, 1, 0, 0, 0);
        });
        e.says("NONE for others.");
        e.edge("-1", () -> e.due("status", new WishSea().status(-1), -1));
        e.edge("6", () -> e.due("status", new WishSea().status(6), -1));
        e.edge("far ones", () -> {
            for (int far : Shores.FAR) {
                e.due("status " + far, new WishSea().status(far), -1);
            }
        });
    }

    private void calls() {
        e.under("## What it is", "## The public face");
        e.says("An object is used for at most 512 calls after it has been made; what later calls answer is free.");
        e.edge("no call", () -> e.due("has(13)", new WishSea().has(13), 1));
        e.edge("511 refused ones, and the 512th", () -> {
            WishSea x = new WishSea();
            for (int i = 0; i < 511; i++) {
                x.say(0);
            }
            e.due("status(2)", x.status(2), 511);
        });
        e.edge("511 DAYS, and the 512th call undoes one", () -> {
            WishSea x = new WishSea();
            for (int i = 0; i < 510; i++) {
                x.night();
            }
            e.due("night", x.night(), 511);
            e.due("undo", x.undo(), true);
        });
        e.edge("249 times 40 DAYS, and 39", () -> {
            WishSea x = Checks.with("");
            for (int i = 0; i < 249; i++) {
                e.due("days " + i, x.days(40), 0);
            }
            e.due("beyond", x.days(40), -1);
            e.due("DAY", x.has(6), 9960);
            e.due("to the last DAY", x.days(39), 0);
            e.due("undo", x.undo(), true);
            e.due("DAY", x.has(6), 9960);
        });
    }

    private void refusals(WishSea x, int... want) {
        for (int what = 0; what < want.length; what++) {
            e.due("status " + what, x.status(what), want[what]);
        }
    }
}
