/** The boundary cases of how much the fish bears and when to stop: promises 22 to 25 and their terms. */
final class StopEdges {
    private static final String A = "thing a worth 1 rhymes 1;";
    private static final String W = "wish w words 0 gives a;";
    private static final String ABC = "thing a worth 10 rhymes 1;thing b worth 30 rhymes 1;thing c worth 7 rhymes 1;";
    /** wx gives z and uses one, wa .. give one and use z: as many as one likes, one behind the other. */
    private static final String ENDLESS = "thing a worth 1 rhymes 1;thing b worth 2 rhymes 1;wish wa words 0 gives a uses b;"
            + "wish wb words 0 gives b uses a;first a;";

    private final Edges e;

    private StopEdges(Edges e) {
        this.e = e;
    }

    static void run(Edges e) {
        StopEdges edges = new StopEdges(e);
        e.under("## Terms", "## Promise 1:");
        edges.bearing();
        edges.whenToStop();
        edges.values();
        edges.greatest();
        edges.falls();
        edges.bears();
        edges.stop();
        edges.value();
    }

    private WishSea fallen(int... bytes) {
        WishSea x = new WishSea();
        e.due("falls", Checks.falls(x, bytes), bytes.length / 3);
        return x;
    }

    private void bears(WishSea x, int count, int least, int greatest) {
        e.due("how many", x.bears(0), count);
        e.due("the least", x.bears(1), least);
        e.due("the greatest", x.bears(2), greatest);
    }

    private void bearing() {
        e.says("FALLS of others are rows: how dark it was, whether it was one too many. BEARS are all numbers 1 .. 999 that the fish "
                + "can bear by these (it was one too many just if it was darker than it bears).");
        e.edge("no rows", () -> bears(new WishSea(), 999, 1, 999));
        e.edge("0 was not", () -> bears(fallen(0, 0, 0), 999, 1, 999));
        e.edge("0 was", () -> bears(fallen(0, 0, 1), 0, -1, -1));
        e.edge("1 was not", () -> bears(fallen(0, 1, 0), 999, 1, 999));
        e.edge("1 was", () -> bears(fallen(0, 1, 1), 0, -1, -1));
        e.edge("2 was not", () -> bears(fallen(0, 2, 0), 998, 2, 999));
        e.edge("2 was", () -> bears(fallen(0, 2, 1), 1, 1, 1));
        e.edge("255 was", () -> bears(fallen(0, 255, 1), 254, 1, 254));
        e.edge("256 was", () -> bears(fallen(1, 0, 1), 255, 1, 255));
        e.edge("998 was not", () -> bears(fallen(3, 230, 0), 2, 998, 999));
        e.edge("999 was not", () -> bears(fallen(3, 231, 0), 1, 999, 999));
        e.edge("999 was", () -> bears(fallen(3, 231, 1), 998, 1, 998));
        e.edge("1000 was not", () -> bears(fallen(3, 232, 0), 0, -1, -1));
        e.edge("1000 was", () -> bears(fallen(3, 232, 1), 999, 1, 999));
        e.edge("65535 was not", () -> bears(fallen(255, 255, 0), 0, -1, -1));
        e.edge("65535 was", () -> bears(fallen(255, 255, 1), 999, 1, 999));
        e.edge("50 was not, 51 was", () -> bears(fallen(0, 50, 0, 0, 51, 1), 1, 50, 50));
        e.edge("50 was not, 52 was", () -> bears(fallen(0, 50, 0, 0, 52, 1), 2, 50, 51));
        e.edge("50 was not, 50 was", () -> bears(fallen(0, 50, 0, 0, 50, 1), 0, -1, -1));
        e.edge("51 was not, 50 was", () -> bears(fallen(0, 51, 0, 0, 50, 1), 0, -1, -1));
        e.edge("the darkest that was not, the least dark that was", () ->
                bears(fallen(0, 9, 0, 0, 99, 1, 0, 50, 0, 0, 60, 1, 0, 20, 0, 0, 70, 1), 10, 50, 59));
    }

    private void values(WishSea x, long... want) {
        for (int k = 0; k < want.length; k++) {
            e.due("value " + k, x.value(k), want[k]);
        }
        e.due("value behind", x.value(want.length), -1);
    }

    private WishSea stopped(String text, int due, int... wishes) {
        WishSea x = Checks.with(text);
        e.due("stop", Checks.stop(x, wishes), due);
        return x;
    }

    private void whenToStop() {
        e.says("WHEN TO STOP: a ROW of WISHES without DAYS (12 at most), as if nothing were one too many; each of BEARS is as likely.");
        e.edge("no WISHES", () -> values(stopped(ABC + "first b;", 0), 999 * 30));
        e.edge("12 WISHES", () -> {
            WishSea x = stopped(ENDLESS, 1, 1, 0, 1, 0, 1, 0, 1, 0, 1, 0, 1, 0);
            values(x, 999, 1998, 999, 1998, 999, 1998, 999, 1998, 999, 1998, 999, 1998, 999);
        });
        e.edge("13 WISHES", () -> {
            WishSea x = Checks.with(ENDLESS);
            e.due("stop", Checks.stop(x, 1, 0, 1, 0, 1, 0, 1, 0, 1, 0, 1, 0, 1), -1);
        });
        e.edge("a DAY", () -> e.due("stop", Checks.stop(Checks.with(ENDLESS), 1, 255, 0), -1));
        e.edge("darker than the fish bears by the text", () -> {
            WishSea x = stopped(A + W + "dark 50;bears 1;", 1, 0);
            values(x, 0, 950);
        });
        e.edge("darker than any of BEARS", () -> {
            WishSea x = stopped(ENDLESS.replace("first a;", "") + "wish wc words 0 gives a;dark 99;", 2,
                    2, 1, 0, 1, 0, 1, 0, 1, 0, 1, 0, 1);
            // Behind the eleventh WISH the sea is 1089, and at first one has nothing.
            values(x, 0, 901, 802 * 2, 703, 604 * 2, 505, 406 * 2, 307, 208 * 2, 109, 10 * 2, 0, 0);
        });
        e.edge("each of BEARS by FALLS", () -> {
            WishSea x = Checks.with(A + W + "dark 50;");
            Checks.falls(x, 0, 49, 0, 0, 52, 1);
            e.due("stop", Checks.stop(x, 0), 1);
            values(x, 0, 2);
        });
    }

    private void values() {
        e.says("VALUE of k WISHES: worth of what one has behind them for each of BEARS that is not below the sea behind each of the "
                + "first k, of what is had at first for each other one, together, for each of BEARS.");
        e.edge("0 WISHES: worth now for all of BEARS, however dark the sea is now", () -> {
            WishSea x = Shores.at(ABC + "first c;bears 999;", 0, 0, 999, 1);
            Checks.stop(x);
            values(x, 9990);
        });
        e.edge("the sea is the least of BEARS", () -> {
            WishSea x = Checks.with(ABC + "first c;wish w words 0 gives a uses c;dark 40;");
            Checks.falls(x, 0, 40, 0, 0, 43, 1);
            Checks.stop(x, 0);
            values(x, 3 * 7, 3 * 10);
        });
        e.edge("the sea is one above the least of BEARS", () -> {
            WishSea x = Checks.with(ABC + "first c;wish w words 0 gives a uses c;dark 41;");
            Checks.falls(x, 0, 40, 0, 0, 43, 1);
            Checks.stop(x, 0);
            values(x, 3 * 7, 2 * 10 + 7);
        });
        e.edge("the sea is the greatest of BEARS", () -> {
            WishSea x = Checks.with(ABC + "first c;wish w words 0 gives a uses c;dark 42;");
            Checks.falls(x, 0, 40, 0, 0, 43, 1);
            Checks.stop(x, 0);
            values(x, 3 * 7, 10 + 2 * 7);
        });
        e.edge("the sea is one above the greatest of BEARS", () -> {
            WishSea x = Checks.with(ABC + "first c;wish w words 0 gives a uses c;dark 43;");
            Checks.falls(x, 0, 40, 0, 0, 43, 1);
            Checks.stop(x, 0);
            values(x, 3 * 7, 3 * 7);
        });
        e.edge("a sea of 0 behind each", () -> values(stopped(ABC + "wish w words 0 gives a;", 1, 0), 0, 9990));
        e.edge("a sea of 1", () -> values(stopped(ABC + "wish w words 0 gives a;dark 1;", 1, 0), 0, 9990));
        e.edge("a sea of 2", () -> values(stopped(ABC + "wish w words 0 gives a;dark 2;", 1, 0), 0, 9980));
        e.edge("the sea goes on from now", () -> {
            WishSea x = Shores.at(ABC + "wish w words 0 gives a;dark 2;bears 999;", 0, 0, 900, 0);
            Checks.stop(x, 0);
            values(x, 0, (999 - 902 + 1) * 10);
        });
        e.edge("each WISH as dark as it is: the darkest first", () -> darkOnes(2, 1, 0, 0, 910 * 7, 900 * 37, 899 * 47));
        e.edge("each WISH as dark as it is: the darkest last", () -> darkOnes(0, 1, 2, 0, 9990, 989 * 40, 899 * 47));
        e.edge("a WISH that isn't dark, in a dark sea", () -> {
            WishSea x = Shores.at(ABC + "wish w words 0 gives a;bears 999;", 0, 0, 900, 0);
            Checks.stop(x, 0);
            values(x, 0, 1000);
        });
        e.edge("the most that there is", () -> {
            WishSea x = Checks.with(Shores.things(10).replace("worth 1 ", "worth 99 ") + Shores.firsts(10));
            Checks.stop(x);
            values(x, 999L * 990);
        });
    }

    /** wa darkens the sea by 1, wb by 10, wc by 90. */
    private void darkOnes(int first, int second, int third, long... want) {
        values(stopped(ABC + "wish wa words 0 gives a;wish wb words 1 gives b;wish wc words 9 gives c;dark max(1,words*10);",
                3, first, second, third), want);
    }

    private void greatest() {
        e.says("The k with the greatest VALUE (0 and on; of like ones the least).");
        e.edge("0 of none", () -> e.due("stop", Checks.stop(Checks.with("")), 0));
        e.edge("0, as each WISH is worth nothing", () -> stopped("thing a worth 0 rhymes 1;" + W, 0, 0));
        e.edge("the last one", () -> stopped(Shores.things(3) + Shores.wishes(3, 3), 3, 0, 1, 2));
        e.edge("one between", () -> stopped(ABC + "first c;wish w words 0 gives b;wish v words 0 gives a uses b;", 1, 0, 1));
        e.edge("like ones: the least", () ->
                stopped("thing a worth 1 rhymes 1;thing b worth 0 rhymes 1;wish w words 0 gives a;wish v words 0 gives b;", 1, 0, 1));
        e.edge("greater by one of BEARS", () -> {
            // 999 * 1 by none; 2 for each of BEARS from 500 on, 0 for the others: 1000.
            WishSea x = Shores.at("thing a worth 0 rhymes 1;thing b worth 2 rhymes 1;thing c worth 1 rhymes 1;"
                    + "wish w words 0 gives b uses c;dark 99;bears 999;", 0, 0, 401, 4);
            e.due("stop", Checks.stop(x, 0), 1);
            values(x, 999, 1000);
        });
        e.edge("less by one of BEARS", () -> {
            WishSea x = Shores.at("thing a worth 0 rhymes 1;thing b worth 2 rhymes 1;thing c worth 1 rhymes 1;"
                    + "wish w words 0 gives b uses c;dark 99;bears 999;", 0, 0, 402, 4);
            e.due("stop", Checks.stop(x, 0), 0);
            values(x, 999, 998);
        });
    }

    private void falls() {
        e.promise(22, "int falls()");
        e.says("The tape (it goes, refused or not) tells FALLS: 1 to 20 rows of three bytes: how dark (two bytes, the higher first), "
                + "1 if it was one too many, else 0: how many rows;");
        e.edge("1 row", () -> e.due("falls", Checks.falls(new WishSea(), 0, 5, 0), 1));
        e.edge("20 rows", () -> {
            WishSea x = new WishSea();
            int[] rows = new int[60];
            rows[58] = 9;
            e.due("falls", Checks.falls(x, rows), 20);
            e.due("the twentieth counts", x.bears(1), 9);
        });
        e.edge("the higher first", () -> bears(fallen(1, 2, 0), 999 - 257, 258, 999));
        e.edge("it goes", () -> {
            WishSea x = new WishSea();
            Checks.falls(x, 0, 5, 0);
            e.due("gone", x.end(1), false);
            e.due("falls of none", x.falls(), -1);
        });
        e.edge("it goes when refused", () -> {
            WishSea x = new WishSea();
            e.due("falls", Checks.falls(x, 0, 5), -1);
            e.due("gone", x.end(1), false);
        });
        e.edge("told once more: anew", () -> {
            WishSea x = new WishSea();
            Checks.falls(x, 0, 50, 0);
            Checks.falls(x, 0, 60, 1);
            bears(x, 59, 1, 59);
            Checks.falls(x, 0, 50, 0);
            bears(x, 950, 50, 999);
        });
        e.says("NONE, refused (5), all staying, when it is none such.");
        e.edge("no rows", () -> refusedFalls());
        e.edge("one byte", () -> refusedFalls(0));
        e.edge("two bytes", () -> refusedFalls(0, 5));
        e.edge("four bytes", () -> refusedFalls(0, 5, 0, 0));
        e.edge("59 bytes", () -> refusedFalls(new int[59]));
        e.edge("61 bytes", () -> refusedFalls(new int[61]));
        e.edge("21 rows", () -> refusedFalls(new int[63]));
        e.edge("a full tape", () -> refusedFalls(new int[1600]));
        e.edge("2 for 1 or 0", () -> refusedFalls(0, 5, 2));
        e.edge("255 for 1 or 0", () -> refusedFalls(0, 5, 255));
        e.edge("2 in the last row", () -> refusedFalls(0, 5, 1, 0, 4, 0, 0, 5, 2));
        e.edge("2 in the first row", () -> refusedFalls(0, 5, 2, 0, 4, 0, 0, 5, 1));
    }

    private void refusedFalls(int... bytes) {
        WishSea x = fallen(0, 50, 0);
        e.due("falls", Checks.falls(x, bytes), -1);
        e.due("status(5)", x.status(5), 1);
        e.due("gone", x.end(1), false);
        bears(x, 950, 50, 999);
    }

    private void bears() {
        e.promise(23, "int bears(int what)");
        e.says("BEARS by FALLS (all without): how many (what 0), the least (1; NONE without), the greatest (2; likewise).");
        e.edge("all", () -> bears(new WishSea(), 999, 1, 999));
        e.edge("all, whatever the text tells", () -> bears(Checks.with("bears 5;"), 999, 1, 999));
        e.edge("one", () -> bears(fallen(0, 9, 0, 0, 10, 1), 1, 9, 9));
        e.edge("none", () -> bears(fallen(0, 9, 0, 0, 9, 1), 0, -1, -1));
        e.edge("all again by a new SHORE", () -> {
            WishSea x = fallen(0, 9, 0, 0, 9, 1);
            x.shore();
            bears(x, 999, 1, 999);
        });
        e.says("NONE for others.");
        e.edge("-1", () -> e.due("bears", new WishSea().bears(-1), -1));
        e.edge("3", () -> e.due("bears", new WishSea().bears(3), -1));
        e.edge("far ones", () -> {
            for (int far : Shores.FAR) {
                e.due("bears " + far, new WishSea().bears(far), -1);
            }
        });
    }

    private void stop() {
        e.promise(24, "int stop()");
        e.says("The tape (it goes, refused or not) is a ROW of WISHES: WHEN TO STOP: k;");
        e.edge("an empty tape", () -> e.due("stop", new WishSea().stop(), 0));
        e.edge("it goes", () -> {
            WishSea x = Checks.with(A + W);
            e.due("stop", Checks.stop(x, 0), 1);
            e.due("gone", x.end(1), false);
        });
        e.edge("it goes when refused", () -> {
            WishSea x = Checks.with(A + W);
            e.due("stop", Checks.stop(x, 1), -1);
            e.due("gone", x.end(1), false);
        });
        e.edge("nothing is said", () -> {
            WishSea x = Checks.with(A + W + "dark 5;");
            Checks.stop(x, 0);
            e.due("had, sea, said, KEPT, ACTS", x.has(2) + x.has(4) + x.has(5) + x.has(11) + x.has(12), 0);
        });
        e.says("NONE, refused (5), when there are more than 12, one is none such, one MAY not be said, or BEARS are none.");
        e.edge("12", () -> e.due("stop", Checks.stop(Checks.with(ENDLESS), 1, 0, 1, 0, 1, 0, 1, 0, 1, 0, 1, 0), 1));
        e.edge("13", () -> refusedStop(ENDLESS, 1, 0, 1, 0, 1, 0, 1, 0, 1, 0, 1, 0, 1));
        e.edge("a full tape", () -> refusedStop(ENDLESS, new int[1600]));
        e.edge("WISH 2 of two", () -> refusedStop(ENDLESS, 2));
        e.edge("WISH 12 of twelve", () -> refusedStop(A + Shores.wishes(12, 1), 12));
        e.edge("WISH 0 of none", () -> refusedStop(A, 0));
        e.edge("none such as the last one", () -> refusedStop(ENDLESS, 1, 0, 2));
        e.edge("255", () -> refusedStop(ENDLESS, 255));
        e.edge("the first one MAY not be said", () -> refusedStop(ENDLESS, 0));
        e.edge("the last one MAY not be said", () -> refusedStop(ENDLESS, 1, 0, 0));
        e.edge("one MAY not be said for ROOM then", () -> refusedStop(ENDLESS + "room 1-said;", 1, 0));
        e.edge("one MAY not be said for CONTENT then", () -> refusedStop(ENDLESS + "content said=1;", 1, 0));
        e.edge("BEARS are none", () -> {
            WishSea x = Checks.with(A + W);
            Checks.falls(x, 0, 0, 1);
            e.due("stop", Checks.stop(x, 0), -1);
            e.due("stop of no WISHES", Checks.stop(x), -1);
            e.due("status(5)", x.status(5), 2);
        });
        e.edge("BEARS are one", () -> {
            WishSea x = Checks.with(A + W);
            Checks.falls(x, 0, 2, 1);
            e.due("stop", Checks.stop(x, 0), 1);
            values(x, 0, 1);
        });
    }

    private void refusedStop(String text, int... wishes) {
        WishSea x = Checks.with(text);
        e.due("stop", Checks.stop(x, wishes), -1);
        e.due("status(5)", x.status(5), 1);
        e.due("value", x.value(0), -1);
        e.due("gone", x.end(1), false);
    }

    private void value() {
        e.promise(25, "long value(int k)");
        e.says("Of the latest stop() of this SHORE (that was not refused): VALUE of k WISHES (0 .. as many as there were);");
        e.edge("k 0 of none", () -> e.due("value", stopped(ENDLESS, 0).value(0), 999));
        e.edge("k 1 of one", () -> e.due("value", stopped(ENDLESS, 1, 1).value(1), 1998));
        e.edge("k 12 of twelve", () -> e.due("value", stopped(ENDLESS, 1, 1, 0, 1, 0, 1, 0, 1, 0, 1, 0, 1, 0).value(12), 999));
        e.edge("a refused one leaves it", () -> {
            WishSea x = stopped(ENDLESS, 1, 1);
            e.due("refused", Checks.stop(x, 1, 1), -1);
            values(x, 999, 1998);
        });
        e.edge("of more and then of fewer WISHES", () -> {
            WishSea x = stopped(ENDLESS, 1, 1, 0, 1);
            e.due("stop", Checks.stop(x, 1), 1);
            values(x, 999, 1998);
        });
        e.edge("new FALLS and ACTS leave it", () -> {
            WishSea x = stopped(ENDLESS, 1, 1);
            Checks.falls(x, 0, 1, 1);
            x.say(1);
            values(x, 999, 1998);
        });
        e.says("NONE when there is none such.");
        e.edge("ahead of any", () -> e.due("value", Checks.with(ENDLESS).value(0), -1));
        e.edge("of a new object", () -> e.due("value", new WishSea().value(0), -1));
        e.edge("k 1 of none", () -> e.due("value", stopped(ENDLESS, 0).value(1), -1));
        e.edge("k 2 of one", () -> e.due("value", stopped(ENDLESS, 1, 1).value(2), -1));
        e.edge("k 13 of twelve", () -> e.due("value", stopped(ENDLESS, 1, 1, 0, 1, 0, 1, 0, 1, 0, 1, 0, 1, 0).value(13), -1));
        e.edge("k -1", () -> e.due("value", stopped(ENDLESS, 1, 1).value(-1), -1));
        e.edge("when the only one was refused", () -> {
            WishSea x = Checks.with(ENDLESS);
            Checks.stop(x, 0);
            e.due("value", x.value(0), -1);
        });
        e.edge("ahead of any of this SHORE", () -> {
            WishSea x = stopped(ENDLESS, 1, 1);
            Checks.shore(x, ENDLESS);
            e.due("value", x.value(0), -1);
        });
        e.edge("far ones", () -> {
            WishSea x = stopped(ENDLESS, 1, 1);
            for (int far : Shores.FAR) {
                e.due("value " + far, x.value(far), -1);
            }
        });
    }
}
