/** Promises 22 to 25: falls, bears, stop, value. */
public final class StopTest {
    private static final Checks C = new Checks();
    private static final String TEXT = "thing a worth 10 rhymes 1;thing b worth 30 rhymes 1;thing c worth 7 rhymes 1;first c;"
            + "wish wa words 0 gives a;wish wb words 0 gives b uses a;dark 40;bears 50;";

    public static void main(String[] args) {
        tellingFalls();
        noFalls();
        stopping();
        notStopping();
        C.end();
    }

    private static void bears(String when, WishSea x, int... want) {
        for (int what = 0; what < 3; what++) {
            C.due(when + ": bears " + what, x.bears(what), want[what]);
        }
    }

    private static void tellingFalls() {
        C.says("BEARS by FALLS (all without): how many (what 0), the least (1; NONE without), the greatest (2; likewise). "
                + "NONE for others.");
        WishSea x = new WishSea();
        bears("none", x, 999, 1, 999);
        C.due("bears 3", x.bears(3), -1);
        C.due("bears -1", x.bears(-1), -1);
        C.says("FALLS of others are rows: how dark it was, whether it was one too many. BEARS are all numbers 1 .. 999 "
                + "that the fish can bear by these (it was one too many just if it was darker than it bears).");
        C.due("falls", Checks.falls(x, 0, 40, 0), 1);
        bears("40 was not", x, 960, 40, 999);
        C.due("falls", Checks.falls(x, 1, 0, 1), 1);
        bears("256 was; told anew", x, 255, 1, 255);
        C.due("falls", Checks.falls(x, 0, 40, 0, 1, 0, 1, 0, 90, 0, 0, 200, 1), 4);
        bears("90 to 199", x, 110, 90, 199);
        C.due("falls", Checks.falls(x, 0, 90, 0, 0, 91, 1), 2);
        bears("one", x, 1, 90, 90);
        C.due("falls", Checks.falls(x, 0, 90, 0, 0, 90, 1), 2);
        bears("none can be", x, 0, -1, -1);
        C.due("falls", Checks.falls(x, 0, 1, 1), 1);
        bears("0 can't be", x, 0, -1, -1);
        C.due("falls", Checks.falls(x, 0, 0, 1), 1);
        bears("0 was one too many", x, 0, -1, -1);
        C.due("falls", Checks.falls(x, 3, 231, 0), 1);
        bears("999 was not", x, 1, 999, 999);
        C.due("falls", Checks.falls(x, 3, 232, 0), 1);
        bears("1000 was not", x, 0, -1, -1);
        C.due("falls", Checks.falls(x, 255, 255, 1, 0, 0, 0), 2);
        bears("65535 was, 0 was not", x, 999, 1, 999);
    }

    private static void noFalls() {
        C.says("The tape (it goes, refused or not) tells FALLS: 1 to 20 rows of three bytes: how dark (two bytes, the "
                + "higher first), 1 if it was one too many, else 0: how many rows; NONE, refused (5), all staying, when "
                + "it is none such.");
        WishSea x = new WishSea();
        Checks.falls(x, 0, 40, 0);
        C.due("no rows", Checks.falls(x), -1);
        C.due("two bytes", Checks.falls(x, 0, 5), -1);
        C.due("four bytes", Checks.falls(x, 0, 5, 1, 0), -1);
        C.due("flag 2", Checks.falls(x, 0, 5, 1, 0, 9, 2), -1);
        C.due("flag 255", Checks.falls(x, 0, 5, 255), -1);
        C.due("21 rows", Checks.falls(x, new int[63]), -1);
        C.due("status(5)", x.status(5), 6);
        bears("stays", x, 960, 40, 999);
        C.due("20 rows", Checks.falls(x, new int[60]), 20);
        bears("20 rows", x, 999, 1, 999);
        C.due("the tape is gone", x.end(1), false);
        // What was cut off the tape is told by none.
        x.feed(0x00280003, 0xe7000000, 0x05010000, 0x07010000, 0x07010000);
        x.end(3);
        C.due("one row", x.falls(), 1);
        bears("one row", x, 960, 40, 999);
    }

    private static void values(String when, WishSea x, long... want) {
        for (int k = 0; k < 14; k++) {
            C.due(when + ": value " + k, x.value(k), k < want.length ? want[k] : -1);
        }
        C.due(when + ": value -1", x.value(-1), -1);
    }

    private static void stopping() {
        C.says("Of the latest stop() of this SHORE (that was not refused): VALUE of k WISHES (0 .. as many as there "
                + "were); NONE when there is none such.");
        WishSea x = Checks.with(TEXT);
        values("ahead of any", x);
        C.says("VALUE of k WISHES: worth of what one has behind them for each of BEARS that is not below the sea behind "
                + "each of the first k, of what is had at first for each other one, together, for each of BEARS.");
        C.due("stop", Checks.stop(x, 0, 1), 2);
        // Bears 40 .. 999 (960 of them) stand one, 80 .. 999 (920) stand two; the other ones have c alone.
        values("all", x, 999 * 7, 960 * 17 + 39 * 7, 920 * 37 + 79 * 7);
        C.says("WHEN TO STOP: a ROW of WISHES without DAYS (12 at most), as if nothing were one too many; each of BEARS "
                + "is as likely.");
        C.due("nothing is said", x.has(4) + x.has(11) + x.has(12), 0);
        C.says("Of the latest stop() of this SHORE (that was not refused):");
        Checks.falls(x, 0, 70, 1);
        values("stays", x, 999 * 7, 960 * 17 + 39 * 7, 920 * 37 + 79 * 7);
        C.says("The k with the greatest VALUE (0 and on; of like ones the least).");
        C.due("stop at one", Checks.stop(x, 0, 1), 1);
        values("up to 69", x, 69 * 7, 30 * 17 + 39 * 7, 69 * 7);
        Checks.falls(x, 0, 40, 1);
        C.due("of like ones the least", Checks.stop(x, 0, 1), 0);
        values("up to 39", x, 39 * 7, 39 * 7, 39 * 7);
        C.due("none", Checks.stop(x), 0);
        values("none", x, 39 * 7);
        C.says("VALUE of k WISHES: worth of what one has behind them for each of BEARS that is not below the sea behind "
                + "each of the first k,");
        // From now on: the sea is 40 already, but by no WISHES none of BEARS is too little.
        x.say(0);
        C.due("now", Checks.stop(x, 1), 0);
        values("now", x, 39 * 17, 39 * 7);
        Checks.falls(x, 0, 80, 0, 0, 90, 1);
        C.due("at its edge", Checks.stop(x, 1), 1);
        values("at its edge", x, 10 * 17, 10 * 37);
    }

    private static void notStopping() {
        C.says("NONE, refused (5), when there are more than 12, one is none such, one MAY not be said, or BEARS are none.");
        WishSea x = Checks.with(TEXT);
        Checks.stop(x, 0);
        C.due("MAY not", Checks.stop(x, 1), -1);
        C.due("MAY not then", Checks.stop(x, 0, 0), -1);
        C.due("a DAY", Checks.stop(x, 255), -1);
        C.due("none such", Checks.stop(x, 0, 2), -1);
        Checks.falls(x, 0, 9, 0, 0, 9, 1);
        C.due("BEARS are none", Checks.stop(x), -1);
        C.due("status(5)", x.status(5), 5);
        C.says("Of the latest stop() of this SHORE (that was not refused):");
        values("stays", x, 999 * 7, 960 * 17 + 39 * 7);
        Checks.shore(x, TEXT);
        values("of this SHORE", x);
        C.says("WHEN TO STOP: a ROW of WISHES without DAYS (12 at most), as if nothing were one too many;");
        StringBuilder text = new StringBuilder("thing z worth 0 rhymes 1;thing a worth 1 rhymes 1;thing b worth 2 rhymes 1;"
                + "wish wa words 0 gives a;wish wz words 0 gives z uses a;wish wb words 0 gives b uses z;wish wc words 0 gives z uses b;");
        WishSea y = Checks.with(text + "dark 99;bears 5;");
        C.due("12, as if nothing were one too many", Checks.stop(y, 0, 1, 2, 3, 0, 2, 3, 2, 1, 0, 2, 3), -1);
        C.due("12", Checks.stop(y, 0, 1, 2, 3, 2, 3, 2, 3, 2, 3, 2, 3), 3);
        // Behind the eleventh WISH the sea is 1089: none of BEARS stands that, and at first one has nothing.
        values("12", y, 0, 901, 0, 703 * 2, 0, 505 * 2, 0, 307 * 2, 0, 109 * 2, 0, 0, 0);
        C.due("13", Checks.stop(y, 0, 1, 2, 3, 2, 3, 2, 3, 2, 3, 2, 3, 2), -1);
        C.says("worth of what one has behind them for each of BEARS that is not below the sea behind each of the first k,");
        WishSea u = Checks.with("thing a worth 1 rhymes 1;thing b worth 1 rhymes 1;thing c worth 1 rhymes 1;"
                + "wish wa words 9 gives a;wish wb words 1 gives b;wish wc words 4 gives c;dark words*10;");
        C.due("each WISH as dark as it is", Checks.stop(u, 2, 0, 1), 3);
        values("each", u, 0, 960, 870 * 2, 860 * 3);
        C.says("one MAY not be said,");
        WishSea z = Checks.with(TEXT + "content said=1;");
        C.due("content then", Checks.stop(z, 0, 1), -1);
        C.due("content then", Checks.stop(z, 0), 1);
    }
}
