/** Promises 16 to 21: row, went, ladder, fewest, most, ends. */
public final class RowsTest {
    private static final Checks C = new Checks();
    private static final String TEXT = "thing a worth 1 rhymes 1;thing b worth 2 rhymes 1 brief;thing c worth 4 rhymes 1;"
            + "wish wa words 0 gives a uses b;wish wb words 0 gives b;wish wc words 0 gives c;dark 30;calm 5;";

    public static void main(String[] args) {
        rows();
        rowsThatEnd();
        rowsThatAreNone();
        ladders();
        likeOnes();
        fromNowOn();
        contentEnds();
        eightRungs();
        C.end();
    }

    private static void went(String when, WishSea x, int... want) {
        for (int what = 0; what < 5; what++) {
            C.due(when + ": went " + what, x.went(what), want[what]);
        }
    }

    private static void rows() {
        C.says("A ROW of WISHES is gone through from now on (255: a DAY ends; 40 at most), as if they were said, up to "
                + "the first one that MAY not be said, or is ONE TOO MANY, or its end.");
        WishSea x = Checks.with(TEXT);
        C.due("ahead of any", x.went(0), -1);
        C.due("row", Checks.row(x, 1, 0, 255, 2, 1), 4);
        went("row", x, 6, 5, 85, 1, 85);
        WishSea y = Checks.with(TEXT + "bears 200;");
        C.due("row", Checks.row(y, 1, 0, 255, 2, 1), 5);
        went("row", y, 0, 1 | 4 | 2, 115, 1, 115);
        C.due("nothing is said", y.has(4) + y.has(5) + y.has(11) + y.has(12) + y.has(2), 0);
        C.due("empty", Checks.row(y), 0);
        went("empty", y, 0, 0, 0, 0, 0);
        y.say(1);
        y.say(2);
        C.says("4 the greatest sea up to there (as it was ahead of the ROW, too).");
        C.due("nights", Checks.row(y, 255, 255), 2);
        went("the sea as it was ahead, too", y, 0, 4, 50, 2, 60);
        C.says("NONE ahead of any, or for others.");
        C.due("went 5", y.went(5), -1);
        C.due("went -1", y.went(-1), -1);
        C.says("(255: a DAY ends; 40 at most)");
        int[] forty = new int[40];
        java.util.Arrays.fill(forty, 255);
        C.due("40", Checks.row(y, forty), 40);
        went("40", y, 0, 4, 0, 40, 60);
    }

    private static void rowsThatEnd() {
        C.says("Of the latest row() of this SHORE: 0 why it ended (0 its end, 1 .. 5 as a WISH that MAY not be said, 6 "
                + "ONE TOO MANY, 7 a DAY beyond 9999), 1 THINGS had then as bits, 2 the sea, 3 the DAY (of each ahead of "
                + "what ended it), 4 the greatest sea up to there (as it was ahead of the ROW, too).");
        WishSea x = Checks.with(TEXT + "bears 60;");
        C.due("uses up what is none", Checks.row(x, 2, 0, 1), 1);
        went("2", x, 2, 4, 30, 0, 30);
        C.due("has it", Checks.row(x, 2, 255, 2), 2);
        went("3", x, 3, 4, 25, 1, 30);
        C.due("one too many", Checks.row(x, 1, 2, 255, 1, 0), 3);
        went("6", x, 6, 4, 55, 1, 60);
        WishSea y = Checks.with(TEXT + "wish n words 0 gives c needs a;wish l words 5 gives c;room 5;content said=1;");
        C.due("needs", Checks.row(y, 3), 0);
        went("1", y, 1, 0, 0, 0, 0);
        C.due("too long", Checks.row(y, 1, 4), 1);
        went("4", y, 4, 2, 30, 0, 30);
        C.due("content", Checks.row(y, 1, 2), 1);
        went("5", y, 5, 2, 30, 0, 30);
        C.due("content said counts this DAY alone", Checks.row(y, 1, 255, 2, 255), 4);
        Checks.on(y, ImageTest.bytes(9998, 0, 7, 0));
        C.due("a DAY beyond", Checks.row(y, 255, 1, 255, 255), 2);
        went("7", y, 7, 2, 32, 9999, 32);
    }

    private static void rowsThatAreNone() {
        C.says("The tape (it goes, refused or not) is a ROW, a byte each: how many are gone through (those that end it "
                + "not counted); NONE, refused (5), when there are more than 40, or one is none such.");
        WishSea x = Checks.with(TEXT);
        Checks.row(x, 1);
        C.due("none such", Checks.row(x, 1, 3), -1);
        C.due("none such behind the end", Checks.row(x, 0, 254), -1);
        C.due("41", Checks.row(x, new int[41]), -1);
        C.due("status(5)", x.status(5), 3);
        went("stays", x, 0, 2, 30, 0, 30);
        C.due("the tape is gone", Checks.row(x), 0);
        C.due("40 can be", Checks.row(x, new int[40]), 0);
        C.says("Of the latest row() of this SHORE:");
        Checks.row(x, 1);
        Checks.shore(x, TEXT);
        C.due("of this SHORE", x.went(0), -1);
    }

    private static void ladder(WishSea x, int... want) {
        for (int k = 0; k <= 8; k++) {
            C.due("ladder " + k, x.ladder(k), k < want.length ? want[k] : 0);
        }
        C.due("ladder 9", x.ladder(9), -1);
        C.due("ladder -1", x.ladder(-1), -1);
    }

    private static void fewest(WishSea x, int things, int... want) {
        C.due("fewest 0 of " + things, x.fewest(things, 0), want[0]);
        for (int what = 1; what < 3; what++) {
            C.due("fewest " + what + " of " + things, x.fewest(things, what), want[0] < 0 ? -1 : want[what]);
        }
        for (int k = 0; k < 10; k++) {
            C.due("fewest " + (10 + k) + " of " + things, x.fewest(things, 10 + k), want[0] < 0 || k >= want[0] ? -1 : want[3 + k]);
        }
    }

    private static void most(WishSea x, int n, int... want) {
        for (int what = 0; what < 4; what++) {
            C.due("most " + n + " " + what, x.most(n, what), want[what]);
        }
    }

    private static void ends(WishSea x, int... want) {
        for (int what = 0; what < 3; what++) {
            C.due("ends " + what, x.ends(what), want.length == 0 ? -1 : want[what]);
        }
        C.due("ends 3", x.ends(3), -1);
        C.due("ends -1", x.ends(-1), -1);
    }

    private static void ladders() {
        C.says("THE LADDER: sets of THINGS that one can have within this DAY, by how many WISHES (8 at most): by 0 what "
                + "one has now; by one more, from each such set, each WISH that MAY be said then (and is not ONE TOO "
                + "MANY):");
        WishSea x = Checks.with(TEXT);
        // {} ; {b} {c} ; {a} {b,c} ; {a,b} {a,c} (90) ; four of them would be one too many.
        ladder(x, 1, 2, 2, 2);
        C.says("FEWEST for THINGS as bits: WISHES (what 0), the sea (1), the set (2), the k-th WISH (10 and k). NONE when "
                + "there is none such, or for others.");
        fewest(x, 0, 0, 0, 0);
        fewest(x, 1, 2, 60, 1, 1, 0);
        fewest(x, 3, 3, 90, 3, 1, 0, 1);
        fewest(x, 5, 3, 90, 5, 1, 0, 2);
        fewest(x, 6, 2, 60, 6, 1, 2);
        fewest(x, 7, -1);
        fewest(x, 8, -1);
        fewest(x, -1, -1);
        fewest(x, -2147483648, -1);
        C.due("what 3", x.fewest(0, 3), -1);
        C.due("what -1", x.fewest(0, -1), -1);
        C.due("what 9", x.fewest(1, 9), -1);
        C.due("what greatest", x.fewest(1, 2147483647), -1);
        C.says("MOST by n WISHES (0 .. 8) or fewer: worth (what 0), WISHES (1), the sea (2), the set (3). NONE when n "
                + "can't be, or for others.");
        most(x, 0, 0, 0, 0, 0);
        most(x, 1, 4, 1, 30, 4);
        most(x, 2, 4, 1, 30, 4);
        most(x, 3, 5, 3, 90, 5);
        most(x, 8, 5, 3, 90, 5);
        most(x, 9, -1, -1, -1, -1);
        most(x, -1, -1, -1, -1, -1);
        C.due("most what 4", x.most(8, 4), -1);
        C.due("most what -1", x.most(8, -1), -1);
        C.says("ENDS: WISHES (what 0), the sea (1), the set (2). NONE when one is never CONTENT, or for others.");
        ends(x);
        C.says("THE LADDER: sets of THINGS that one can have within this DAY,");
        C.due("nothing is said", x.has(4) + x.has(11) + x.has(12), 0);
    }

    private static void likeOnes() {
        C.says("of all that lead to one set by as many WISHES the one with the least sea counts alone; of like ones that "
                + "from the least set (as bits), then the least WISH.");
        // To {c,d}: by wd then wc, or wc then wd; as dark: the one from the least set, {c}, counts.
        WishSea x = Checks.with("thing a worth 0 rhymes 1;thing b worth 0 rhymes 1;thing c worth 5 rhymes 1;thing d worth 5 rhymes 1;"
                + "wish wd words 1 gives d;wish vd words 1 gives d;wish wc words 1 gives c;wish vc words 0 gives c;dark words;");
        ladder(x, 1, 2, 1);
        fewest(x, 4, 1, 0, 4, 3);
        fewest(x, 8, 1, 1, 8, 0);
        fewest(x, 12, 2, 1, 12, 3, 0);
        C.says("MOST by n WISHES or fewer: the set with the most worth of THINGS that are not brief; of like ones the "
                + "fewest WISHES, the least sea, the least set.");
        most(x, 1, 5, 1, 0, 4);
        C.says("of like ones that from the least set (as bits), then the least WISH.");
        // As dark both ways: from the least set.
        WishSea y = Checks.with("thing c worth 5 rhymes 1;thing d worth 5 rhymes 1;"
                + "wish wd words 1 gives d;wish wc words 1 gives c;dark words;");
        fewest(y, 3, 2, 2, 3, 1, 0);
        fewest(y, 0, 0, 0, 0);
        C.says("of like ones the fewest WISHES, the least sea, the least set.");
        most(y, 1, 5, 1, 1, 1);
        C.says("of all that lead to one set by as many WISHES the one with the least sea counts alone;");
        // Less sea is ahead of the least set: by d the sea is less.
        WishSea z = Checks.with("thing c worth 5 rhymes 1;thing d worth 5 rhymes 1;thing e worth 0 rhymes 1;"
                + "wish wd words 1 gives d;wish wc words 3 gives c;wish we words 0 gives e;dark words*(2-said);");
        fewest(z, 3, 2, 2 + 3, 3, 0, 1);
        C.says("of like ones the fewest WISHES, the least sea, the least set.");
        most(z, 1, 5, 1, 2, 2);
        C.says("FEWEST for some THINGS: the fewest WISHES by which there is a set with all of these; of like ones the "
                + "least sea, then the least set.");
        fewest(z, 7, 3, 1, 7, 2, 0, 1);
    }

    private static void fromNowOn() {
        C.says("by 0 what one has now; by one more, from each such set, each WISH that MAY be said then (and is not ONE "
                + "TOO MANY):");
        WishSea x = Checks.with(TEXT + "bears 90;room 9-said*4;");
        ladder(x, 1, 2, 2, 2);
        x.say(1);
        // Two said at most leave room enough for rhyme 1: 9, 5, 1; then -3 is 0.
        ladder(x, 1, 2, 2);
        fewest(x, 1, 1, 60, 1, 0);
        fewest(x, 4, 1, 60, 6, 2);
        x.night();
        ladder(x, 1, 2, 2);
        fewest(x, 2, 1, 55, 2, 1);
        x.undo();
        ladder(x, 1, 2, 2);
        Checks.on(x, ImageTest.bytes(3, 0, 0, 4));
        ladder(x, 1, 1, 1, 1);
        fewest(x, 5, 2, 60, 5, 1, 0);
        Checks.on(x, ImageTest.bytes(3, 0, 0, 1));
        ladder(x, 1, 2, 1);
        Checks.on(x, ImageTest.bytes(3, 2, 0, 1));
        ladder(x, 1, 2);
        Checks.on(x, ImageTest.bytes(3, 2, 61, 1));
        ladder(x, 1);
        Checks.on(x, ImageTest.bytes(4, 2, 60, 1));
        fewest(x, 4, 1, 90, 5, 2);
        Checks.on(x, ImageTest.bytes(0, 0, 0, 0));
        ladder(x, 1, 2, 2, 2);
        Checks.shore(x, TEXT + "bears 30;");
        ladder(x, 1, 2);
    }

    private static void contentEnds() {
        C.says("ENDS: the fewest WISHES by which there is a set with which one is CONTENT, of like ones the least sea, "
                + "then the least set.");
        WishSea x = Checks.with(TEXT + "content worth>3;");
        ends(x, 1, 30, 4);
        ladder(x, 1, 2, 2, 2);
        WishSea y = Checks.with(TEXT + "content said=2;");
        ends(y, 2, 60, 1);
        WishSea z = Checks.with(TEXT + "content worth=0;");
        ends(z, 0, 0, 0);
        ladder(z, 1);
        C.due("never", Checks.with(TEXT + "content worth>99;").ends(0), -1);
        WishSea w = Checks.with("thing a worth 5 rhymes 1;thing b worth 5 rhymes 1;thing c worth 5 rhymes 1;"
                + "wish wa words 3 gives a;wish wc words 2 gives c;wish wb words 2 gives b;dark words;content had=1 and worth=5;");
        ends(w, 1, 2, 2);
    }

    private static void eightRungs() {
        StringBuilder text = new StringBuilder();
        for (char c = 'a'; c < 'k'; c++) {
            text.append("thing ").append(c).append(" worth 1 rhymes 1;wish w").append(c).append(" words 0 gives ").append(c).append(";");
        }
        C.says("by how many WISHES (8 at most)");
        WishSea x = Checks.with(text + "dark 1;");
        ladder(x, 1, 10, 45, 120, 210, 252, 210, 120, 45);
        fewest(x, 255, 8, 8, 255, 0, 1, 2, 3, 4, 5, 6, 7);
        fewest(x, 256, 1, 1, 256, 8);
        fewest(x, 511, -1);
        most(x, 8, 8, 8, 8, 255);
        most(x, 3, 3, 3, 3, 7);
        ends(x);
        WishSea y = Checks.with(text + "dark 1;content had=8 and not worth=9;");
        ends(y, 8, 8, 255);
        ends(Checks.with(text + "content had=9;"));
    }
}
