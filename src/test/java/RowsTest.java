/** Promises 16 to 21: row, went, ladder, fewest, most, ends. */
public final class RowsTest {
    private static final Checks C = new Checks();
    private static final String TEXT = "thing a worth 1 rhymes 1;thing b worth 2 rhymes 1 brief;thing c worth 4 rhymes 1;"
            + "wish wa words 0 gives a uses b;wish wb words 0 gives b;wish wc words 0 gives c;dark 30;calm 5;";

    public static void main(String[] args) {
        rows();
        rowsThatEnd();
        rowsThatAreNone();
        ladders();
        likeOnes();
        fromNowOn();
        contentEnds();
        eightRungs();
        C.end();
    }

    private static void went(String when, WishSea x, int... want) {
        for (int what = 0; what < 5; what++) {
            C.due(when + ": went " + what, x.went(what), want[what]);
        }
    }

    private static void rows() {
        WishSea x = Checks.with(TEXT);
        C.due("ahead of any", x.went(0), -1);
        C.due("row", Checks.row(x, 1, 0, 255, 2, 1), 4);
        went("row", x, 6, 5, 85, 1, 85);
        WishSea y = Checks.with(TEXT + "bears 200;");
        C.due("row", Checks.row(y, 1, 0, 255, 2, 1), 5);
        went("row", y, 0, 1 | 4 | 2, 115, 1, 115);
        C.due("nothing is said", y.has(4) + y.has(5) + y.has(11) + y.has(12) + y.has(2), 0);
        C.due("empty", Checks.row(y), 0);
        went("empty", y, 0, 0, 0, 0, 0);
        y.say(1);
        y.say(2);
        C.due("nights", Checks.row(y, 255, 255), 2);
        went("the sea as it was ahead, too", y, 0, 4, 50, 2, 60);
        C.due("went 5", y.went(5), -1);
        C.due("went -1", y.went(-1), -1);
        int[] forty = new int[40];
        java.util.Arrays.fill(forty, 255);
        C.due("40", Checks.row(y, forty), 40);
        went("40", y, 0, 4, 0, 40, 60);
    }

    private static void rowsThatEnd() {
        WishSea x = Checks.with(TEXT + "bears 60;");
        C.due("uses up what is none", Checks.row(x, 2, 0, 1), 1);
        went("2", x, 2, 4, 30, 0, 30);
        C.due("has it", Checks.row(x, 2, 255, 2), 2);
        went("3", x, 3, 4, 25, 1, 30);
        C.due("one too many", Checks.row(x, 1, 2, 255, 1, 0), 3);
        went("6", x, 6, 4, 55, 1, 60);
        WishSea y = Checks.with(TEXT + "wish n words 0 gives c needs a;wish l words 5 gives c;room 5;content said=1;");
        C.due("needs", Checks.row(y, 3), 0);
        went("1", y, 1, 0, 0, 0, 0);
        C.due("too long", Checks.row(y, 1, 4), 1);
        went("4", y, 4, 2, 30, 0, 30);
        C.due("content", Checks.row(y, 1, 2), 1);
        went("5", y, 5, 2, 30, 0, 30);
        C.due("content said counts this DAY alone", Checks.row(y, 1, 255, 2, 255), 4);
        Checks.on(y, ImageTest.bytes(9998, 0, 7, 0));
        C.due("a DAY beyond", Checks.row(y, 255, 1, 255, 255), 2);
        went("7", y, 7, 2, 32, 9999, 32);
    }

    private static void rowsThatAreNone() {
        WishSea x = Checks.with(TEXT);
        Checks.row(x, 1);
        C.due("none such", Checks.row(x, 1, 3), -1);
        C.due("none such behind the end", Checks.row(x, 0, 254), -1);
        C.due("41", Checks.row(x, new int[41]), -1);
        C.due("status(5)", x.status(5), 3);
        went("stays", x, 0, 2, 30, 0, 30);
        C.due("the tape is gone", Checks.row(x), 0);
        C.due("40 can be", Checks.row(x, new int[40]), 0);
        Checks.row(x, 1);
        Checks.shore(x, TEXT);
        C.due("of this SHORE", x.went(0), -1);
    }

    private static void ladder(WishSea x, int... want) {
        for (int k = 0; k <= 8; k++) {
            C.due("ladder " + k, x.ladder(k), k < want.length ? want[k] : 0);
        }
        C.due("ladder 9", x.ladder(9), -1);
        C.due("ladder -1", x.ladder(-1), -1);
    }

    private static void fewest(WishSea x, int things, int... want) {
        C.due("fewest 0 of " + things, x.fewest(things, 0), want[0]);
        for (int what = 1; what < 3; what++) {
            C.due("fewest " + what + " of " + things, x.fewest(things, what), want[0] < 0 ? -1 : want[what]);
        }
        for (int k = 0; k < 10; k++) {
            C.due("fewest " + (10 + k) + " of " + things, x.fewest(things, 10 + k), want[0] < 0 || k >= want[0] ? -1 : want[3 + k]);
        }
    }

    private static void most(WishSea x, int n, int... want) {
        for (int what = 0; what < 4; what++) {
            C.due("most " + n + " " + what, x.most(n, what), want[what]);
        }
    }

    private static void ends(WishSea x, int... want) {
        for (int what = 0; what < 3; what++) {
            C.due("ends " + what, x.ends(what), want.length == 0 ? -1 : want[what]);
        }
        C.due("ends 3", x.ends(3), -1);
        C.due("ends -1", x.ends(-1), -1);
    }

    private static void ladders() {
        WishSea x = Checks.with(TEXT);
        // {} ; {b} {c} ; {a} {b,c} ; {a,b} {a,c} (90) ; four of them would be one too many.
        ladder(x, 1, 2, 2, 2);
        fewest(x, 0, 0, 0, 0);
        fewest(x, 1, 2, 60, 1, 1, 0);
        fewest(x, 3, 3, 90, 3, 1, 0, 1);
        fewest(x, 5, 3, 90, 5, 1, 0, 2);
        fewest(x, 6, 2, 60, 6, 1, 2);
        fewest(x, 7, -1);
        fewest(x, 8, -1);
        fewest(x, -1, -1);
        fewest(x, -2147483648, -1);
        C.due("what 3", x.fewest(0, 3), -1);
        C.due("what -1", x.fewest(0, -1), -1);
        C.due("what 9", x.fewest(1, 9), -1);
        C.due("what greatest", x.fewest(1, 2147483647), -1);
        most(x, 0, 0, 0, 0, 0);
        most(x, 1, 4, 1, 30, 4);
        most(x, 2, 4, 1, 30, 4);
        most(x, 3, 5, 3, 90, 5);
        most(x, 8, 5, 3, 90, 5);
        most(x, 9, -1, -1, -1, -1);
        most(x, -1, -1, -1, -1, -1);
        C.due("most what 4", x.most(8, 4), -1);
        C.due("most what -1", x.most(8, -1), -1);
        ends(x);
        C.due("nothing is said", x.has(4) + x.has(11) + x.has(12), 0);
    }

    private static void likeOnes() {
        // To {c,d}: by wd then wc, or wc then wd; as dark: the one from the least set, {c}, counts.
        WishSea x = Checks.with("thing a worth 0 rhymes 1;thing b worth 0 rhymes 1;thing c worth 5 rhymes 1;thing d worth 5 rhymes 1;"
                + "wish wd words 1 gives d;wish vd words 1 gives d;wish wc words 1 gives c;wish vc words 0 gives c;dark words;");
        ladder(x, 1, 2, 1);
        fewest(x, 4, 1, 0, 4, 3);
        fewest(x, 8, 1, 1, 8, 0);
        fewest(x, 12, 2, 1, 12, 3, 0);
        most(x, 1, 5, 1, 0, 4);
        // As dark both ways: from the least set.
        WishSea y = Checks.with("thing c worth 5 rhymes 1;thing d worth 5 rhymes 1;"
                + "wish wd words 1 gives d;wish wc words 1 gives c;dark words;");
        fewest(y, 3, 2, 2, 3, 1, 0);
        fewest(y, 0, 0, 0, 0);
        most(y, 1, 5, 1, 1, 1);
        // Less sea is ahead of the least set: by d the sea is less.
        WishSea z = Checks.with("thing c worth 5 rhymes 1;thing d worth 5 rhymes 1;thing e worth 0 rhymes 1;"
                + "wish wd words 1 gives d;wish wc words 3 gives c;wish we words 0 gives e;dark words*(2-said);");
        fewest(z, 3, 2, 2 + 3, 3, 0, 1);
        most(z, 1, 5, 1, 2, 2);
        fewest(z, 7, 3, 1, 7, 2, 0, 1);
    }

    private static void fromNowOn() {
        WishSea x = Checks.with(TEXT + "bears 90;room 9-said*4;");
        ladder(x, 1, 2, 2, 2);
        x.say(1);
        // Two said at most leave room enough for rhyme 1: 9, 5, 1; then -3 is 0.
        ladder(x, 1, 2, 2);
        fewest(x, 1, 1, 60, 1, 0);
        fewest(x, 4, 1, 60, 6, 2);
        x.night();
        ladder(x, 1, 2, 2);
        fewest(x, 2, 1, 55, 2, 1);
        x.undo();
        ladder(x, 1, 2, 2);
        Checks.on(x, ImageTest.bytes(3, 0, 0, 4));
        ladder(x, 1, 1, 1, 1);
        fewest(x, 5, 2, 60, 5, 1, 0);
        Checks.on(x, ImageTest.bytes(3, 0, 0, 1));
        ladder(x, 1, 2, 1);
        Checks.on(x, ImageTest.bytes(3, 2, 0, 1));
        ladder(x, 1, 2);
        Checks.on(x, ImageTest.bytes(3, 2, 61, 1));
        ladder(x, 1);
        Checks.on(x, ImageTest.bytes(4, 2, 60, 1));
        fewest(x, 4, 1, 90, 5, 2);
        Checks.on(x, ImageTest.bytes(0, 0, 0, 0));
        ladder(x, 1, 2, 2, 2);
        Checks.shore(x, TEXT + "bears 30;");
        ladder(x, 1, 2);
    }

    private static void contentEnds() {
        WishSea x = Checks.with(TEXT + "content worth>3;");
        ends(x, 1, 30, 4);
        ladder(x, 1, 2, 2, 2);
        WishSea y = Checks.with(TEXT + "content said=2;");
        ends(y, 2, 60, 1);
        WishSea z = Checks.with(TEXT + "content worth=0;");
        ends(z, 0, 0, 0);
        ladder(z, 1);
        C.due("never", Checks.with(TEXT + "content worth>99;").ends(0), -1);
        WishSea w = Checks.with("thing a worth 5 rhymes 1;thing b worth 5 rhymes 1;thing c worth 5 rhymes 1;"
                + "wish wa words 3 gives a;wish wc words 2 gives c;wish wb words 2 gives b;dark words;content had=1 and worth=5;");
        ends(w, 1, 2, 2);
    }

    private static void eightRungs() {
        StringBuilder text = new StringBuilder();
        for (char c = 'a'; c < 'k'; c++) {
            text.append("thing ").append(c).append(" worth 1 rhymes 1;wish w").append(c).append(" words 0 gives ").append(c).append(";");
        }
        WishSea x = Checks.with(text + "dark 1;");
        ladder(x, 1, 10, 45, 120, 210, 252, 210, 120, 45);
        fewest(x, 255, 8, 8, 255, 0, 1, 2, 3, 4, 5, 6, 7);
        fewest(x, 256, 1, 1, 256, 8);
        fewest(x, 511, -1);
        most(x, 8, 8, 8, 8, 255);
        most(x, 3, 3, 3, 3, 7);
        ends(x);
        WishSea y = Checks.with(text + "dark 1;content had=8 and not worth=9;");
        ends(y, 8, 8, 255);
        ends(Checks.with(text + "content had=9;"));
    }
}
