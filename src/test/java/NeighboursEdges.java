/** The boundary cases of neighbours and of what was had before: promises 26, 27 and their terms. */
final class NeighboursEdges {
    private static final String A = "thing a worth 5 rhymes 1;";
    private static final String W = "wish w words 0 gives a;";
    private static final String FOUR = Shores.things(4) + Shores.wishes(4, 4);

    private final Edges e;

    private NeighboursEdges(Edges e) {
        this.e = e;
    }

    static void run(Edges e) {
        NeighboursEdges edges = new NeighboursEdges(e);
        e.under("## Terms", "## Promise 1:");
        edges.turns();
        edges.wanting();
        edges.hadBefore();
        edges.rivals();
        edges.before();
    }

    private void rivals(WishSea x, int n, int margin, int... moves) {
        e.due("margin of " + n, x.rivals(n, -1), margin);
        for (int k = 0; k < n; k++) {
            e.due("turn " + k + " of " + n, x.rivals(n, k), moves[k]);
        }
    }

    private void turns() {
        e.says("NEIGHBOURS: two fishers, each with the THINGS that are had at first, at one fish (a sea of 0, DAY 0; said counts "
                + "both); by turns, the first one ahead, n turns (4 at most): each turn a WISH that he MAY say by his own THINGS, or "
                + "none; if it is ONE TOO MANY, both are as at first, and it is over.");
        e.edge("no turns", () -> rivals(Checks.with(FOUR), 0, 0));
        e.edge("1 turn", () -> rivals(Checks.with(FOUR), 1, 1, 0));
        e.edge("2 turns", () -> rivals(Checks.with(FOUR), 2, 0, 0, 0));
        e.edge("3 turns", () -> rivals(Checks.with(FOUR), 3, 1, 0, 0, 1));
        e.edge("4 turns", () -> rivals(Checks.with(FOUR), 4, 0, 0, 0, 1, 1));
        e.edge("5 turns", () -> e.due("margin", Checks.with(FOUR).rivals(5, -1), -1000000000));
        e.edge("no WISHES", () -> rivals(Checks.with(A), 4, 0, 20, 20, 20, 20));
        e.edge("all is had at first", () -> rivals(Checks.with(FOUR + Shores.firsts(4)), 4, 0, 20, 20, 20, 20));
        e.edge("as at first, whatever one has now", () -> rivals(Shores.at(FOUR + "dark 1;bears 2;", 5, 3, 2, 15), 2, 0, 0, 0));
        e.edge("DAY 0", () -> rivals(Shores.at(A + W + "room 1-day;", 7, 0, 0, 0), 1, 5, 0));
        e.edge("said counts both", () -> rivals(Checks.with(FOUR + "room 2-said;"), 3, 0, 0, 0, 20));
        e.edge("each by his own THINGS", () -> rivals(Checks.with(FOUR + "content had=1;"), 4, 0, 0, 0, 20, 20));
        e.edge("DAY 0 for ROOM, and no less", () -> rivals(Checks.with(A + W + "room 1+day;"), 1, 5, 0));
        e.edge("DAY 0 for dark", () -> rivals(Checks.with(A + W + "dark day*99;bears 1;"), 1, 5, 0));
        e.edge("DAY 0 for dark, and no less", () -> rivals(Checks.with(A + W + "dark 0-day*99;bears 1;"), 1, 5, 0));
        e.edge("said counts both for dark", () -> {
            // The third WISH of both makes the sea 0 + 40 + 80: ONE TOO MANY, which is no worse than none.
            rivals(Checks.with(FOUR + "dark said*40;bears 119;"), 2, 0, 0, 0);
            rivals(Checks.with(FOUR + "dark said*40;bears 119;"), 3, 0, 0, 0, 1);
            rivals(Checks.with(FOUR + "dark said*40;bears 120;"), 3, 1, 0, 0, 1);
        });
        e.edge("dark by his own THINGS, for each WISH alike", () -> {
            // Each one's first WISH isn't dark; the second one of the first fisher makes the sea 99.
            rivals(Checks.with(FOUR + "dark had*99;bears 98;"), 3, 0, 0, 0, 1);
            rivals(Checks.with(FOUR + "dark had*99;bears 99;"), 3, 1, 0, 0, 1);
        });
        e.edge("just what the fish bears", () -> rivals(Checks.with(A + W + "dark 40;bears 40;"), 1, 5, 0));
        e.edge("just what the fish bears by both", () -> rivals(Checks.with(A + W + "dark 20;bears 40;"), 2, 0, 0, 0));
        e.edge("just what the fish bears: it goes on", () -> rivals(Checks.with("thing a worth 5 rhymes 1;thing b worth 1 rhymes 1;"
                + "wish wa words 9 gives a;wish wb words 0 gives b;dark words;room 10-sea;bears 9;"), 2, 4, 0, 1));
        e.edge("ONE TOO MANY by one", () -> {
            // The second one's WISH makes both as at first.
            rivals(Checks.with(A + W + "dark 20;bears 39;"), 2, 0, 0, 0);
            rivals(Checks.with(A + W + "dark 20;bears 39;"), 3, 0, 0, 0, 20);
        });
        e.edge("over: none is said behind it, though he MAY", () -> {
            // The second one has nothing of worth to say: he makes it ONE TOO MANY, and it is over.
            WishSea x = Checks.with(A + "thing b worth 0 rhymes 1;" + W + "wish v words 9 gives b uses a;dark 20+words;bears 39;");
            rivals(x, 4, 0, 0, 0, 20, 20);
        });
        e.edge("ONE TOO MANY in the last turn", () -> {
            WishSea x = Checks.with(FOUR + "dark 10;bears 35;");
            rivals(x, 4, 0, 0, 0, 1, 1);
        });
        e.edge("ONE TOO MANY in the first turn", () -> rivals(Checks.with(A + W + "dark 2;bears 1;"), 4, 0, 0, 20, 20, 20));
    }

    private void wanting() {
        e.says("Each wants his worth at the end less the other one's to be most (of like ones the first WISH, none behind all).");
        e.edge("most by the last WISH", () -> rivals(Checks.with("thing a worth 5 rhymes 1;thing b worth 6 rhymes 1;"
                + Shores.wishes(2, 2)), 1, 6, 1));
        e.edge("more by one ahead of the first WISH", () -> rivals(Checks.with("thing a worth 5 rhymes 1;thing b worth 4 rhymes 1;"
                + "wish wb words 0 gives b;wish wa words 0 gives a;"), 1, 5, 1));
        e.edge("like ones: the first WISH", () -> rivals(Checks.with(A + Shores.wishes(12, 1)), 1, 5, 0));
        e.edge("like ones: a WISH ahead of none", () -> rivals(Checks.with("thing a worth 0 rhymes 1;" + W), 1, 0, 0));
        e.edge("none, when each WISH is worse", () ->
                rivals(Checks.with(A + "thing b worth 4 rhymes 1;first a;wish w words 0 gives b uses a;"), 1, 0, 20));
        e.edge("none, when none MAY be said", () -> rivals(Checks.with(A + W + "room 0;"), 1, 0, 20));
        e.edge("the second one wants his own", () -> rivals(Checks.with("thing a worth 5 rhymes 1;thing b worth 6 rhymes 1;"
                + "wish wa words 0 gives a;wish wb words 0 gives b;room 2-said;"), 2, 0, 1, 1));
        e.edge("the end counts, not the turn", () -> {
            // Now 5 by wa; but wb leaves the second one no room at all.
            WishSea x = Checks.with("thing a worth 5 rhymes 1;thing b worth 4 rhymes 9;wish wa words 0 gives a;"
                    + "wish wb words 0 gives b;dark rhymes;room 9-sea;");
            rivals(x, 1, 5, 0);
            rivals(x, 2, 4, 1, 20);
        });
        e.edge("the greatest worth that there is", () -> rivals(Checks.with("thing a worth 99 rhymes 1;" + W), 1, 99, 0));
        e.edge("behind, whatever he says", () -> rivals(lessByOne(), 2, -1, 0, 1));
    }

    private void hadBefore() {
        e.says("BEFORE: sets of THINGS that one could have had ahead of a DAY's end so that one has what one has now behind it.");
        e.edge("no THINGS", () -> before(new WishSea(), 1, 0, 0));
        e.edge("no brief ones", () -> before(Checks.with(Shores.things(10) + Shores.firsts(10)), 1, 1023, 1023));
        e.edge("one brief one", () -> before(Checks.with(Shores.things(1, " brief")), 2, 0, 1));
        e.edge("ten brief ones", () -> before(Checks.with(Shores.things(10, " brief")), 1024, 0, 1023));
        e.edge("nine brief ones and one that one has", () ->
                before(Checks.with(Shores.things(9, " brief") + "thing j worth 1 rhymes 1;first j;"), 512, 512, 1023));
        e.edge("a brief one that one has now", () -> before(Checks.with(Shores.things(10, " brief") + "first a;"), 0, -1, -1));
        e.edge("the last brief one that one has now", () -> before(Checks.with(Shores.things(10, " brief") + "first j;"), 0, -1, -1));
        e.edge("brief and not brief ones that one has now", () ->
                before(Checks.with(Shores.things(1, " brief") + "thing b worth 1 rhymes 1;first a;first b;"), 0, -1, -1));
    }

    private void before(WishSea x, int sets, int least, int greatest) {
        e.due("how many", x.before(0), sets);
        e.due("the least", x.before(1), least);
        e.due("the greatest", x.before(2), greatest);
    }

    private void rivals() {
        e.promise(26, "int rivals(int n, int k)");
        e.says("NEIGHBOURS, n turns (0 .. 4): the first one's worth less the other one's (k NONE), what is said in turn k (0 and on; "
                + "20: none, or it is over).");
        e.edge("n 0, k NONE", () -> e.due("rivals", Checks.with(FOUR).rivals(0, -1), 0));
        e.edge("n 4, k NONE", () -> e.due("rivals", Checks.with(FOUR).rivals(4, -1), 0));
        e.edge("n 1, k 0", () -> e.due("rivals", Checks.with(FOUR).rivals(1, 0), 0));
        e.edge("n 4, k 3", () -> e.due("rivals", Checks.with(FOUR).rivals(4, 3), 1));
        e.edge("the last WISH of twelve", () ->
                e.due("rivals", Checks.with(A + Shores.wishes(11, 1).replace("gives a", "gives a needs a") + "wish v words 0 gives a;")
                        .rivals(1, 0), 11));
        e.edge("20 for none", () -> e.due("rivals", Checks.with(A).rivals(4, 3), 20));
        e.edge("20 when it is over", () -> e.due("rivals", Checks.with(A + W + "dark 2;bears 1;").rivals(2, 1), 20));
        e.edge("-1 that is a number", () -> e.due("rivals", lessByOne().rivals(2, -1), -1));
        e.edge("asked in any order", () -> {
            WishSea x = Checks.with(FOUR);
            e.due("4, 3", x.rivals(4, 3), 1);
            e.due("1, NONE", x.rivals(1, -1), 1);
            e.due("3, 2", x.rivals(3, 2), 1);
            e.due("4, 0", x.rivals(4, 0), 0);
            e.due("3, NONE", x.rivals(3, -1), 1);
        });
        e.edge("of this SHORE", () -> {
            WishSea x = Checks.with(FOUR);
            x.rivals(1, -1);
            Checks.shore(x, A + W);
            e.due("rivals", x.rivals(1, -1), 5);
        });
        e.says("NOTHING for others.");
        e.edge("n -1", () -> nothing(-1, -1));
        e.edge("n -1, k 0", () -> nothing(-1, 0));
        e.edge("n 5", () -> nothing(5, -1));
        e.edge("n 5, k 0", () -> nothing(5, 0));
        e.edge("k -2", () -> nothing(4, -2));
        e.edge("k 0 of no turns", () -> nothing(0, 0));
        e.edge("k 1 of one turn", () -> nothing(1, 1));
        e.edge("k 4 of four turns", () -> nothing(4, 4));
        e.edge("far ones", () -> {
            for (int far : Shores.FAR) {
                nothing(far, -1);
                nothing(4, far);
            }
        });
    }

    /** At first there is room for wa alone. If the first one says it, there is room for wb, which is worth one more. */
    private static WishSea lessByOne() {
        return Checks.with("thing a worth 1 rhymes 1;thing b worth 2 rhymes 2;" + Shores.wishes(2, 2) + "room 1+said;");
    }

    private void nothing(int n, int k) {
        e.due("rivals " + n + " " + k, Checks.with(FOUR).rivals(n, k), -1000000000);
    }

    private void before() {
        e.promise(27, "int before(int what)");
        e.says("BEFORE: how many sets (what 0), the least (1; NONE without), the greatest (2; likewise).");
        e.edge("one", () -> before(Checks.with(A), 1, 0, 0));
        e.edge("all", () -> before(Checks.with(Shores.things(10, " brief")), 1024, 0, 1023));
        e.edge("none", () -> before(Checks.with(Shores.things(1, " brief") + "first a;"), 0, -1, -1));
        e.edge("what one has now, not at first", () -> {
            WishSea x = Checks.with(Shores.things(1, " brief") + "first a;");
            x.night();
            before(x, 2, 0, 1);
        });
        e.says("NONE for others.");
        e.edge("-1", () -> e.due("before", Checks.with(A).before(-1), -1));
        e.edge("3", () -> e.due("before", Checks.with(A).before(3), -1));
        e.edge("far ones", () -> {
            for (int far : Shores.FAR) {
                e.due("before " + far, Checks.with(A).before(far), -1);
            }
        });
    }
}
