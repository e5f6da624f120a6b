/** The boundary cases of rows and THE LADDER: part III's beginning, and promises 16 to 21. */
final class RowsEdges {
    private static final String A = "thing a worth 1 rhymes 1;";
    private static final String W = "wish w words 0 gives a;";
    private static final String ABC = "thing a worth 1 rhymes 1;thing b worth 2 rhymes 1;thing c worth 4 rhymes 1;";
    private static final String TEN = Shores.things(10) + Shores.wishes(10, 10);
    private static final String THREE = Shores.things(3) + Shores.wishes(3, 3);

    private final Edges e;

    private RowsEdges(Edges e) {
        this.e = e;
    }

    static void run(Edges e) {
        RowsEdges edges = new RowsEdges(e);
        e.under("## Terms", "## Promise 1:");
        edges.aRow();
        edges.theLadder();
        edges.alikeOnTheLadder();
        edges.fewestThings();
        edges.mostWorth();
        edges.contentAtLast();
        edges.row();
        edges.went();
        edges.ladder();
        edges.fewest();
        edges.most();
        edges.ends();
    }

    private void went(WishSea x, int why, int things, int sea, int day, int greatest) {
        e.due("why", x.went(0), why);
        e.due("THINGS", x.went(1), things);
        e.due("the sea", x.went(2), sea);
        e.due("the DAY", x.went(3), day);
        e.due("the greatest sea", x.went(4), greatest);
    }

    private void aRow() {
        e.says("III. A ROW of WISHES is gone through from now on (255: a DAY ends; 40 at most), as if they were said, up to the "
                + "first one that MAY not be said, or is ONE TOO MANY, or its end.");
        e.edge("none", () -> {
            WishSea x = Shores.at(A + W, 5, 6, 7, 1);
            e.due("row", Checks.row(x), 0);
            went(x, 0, 1, 7, 5, 7);
        });
        e.edge("from now on", () -> {
            WishSea x = Shores.at(ABC + Shores.wishes(3, 3) + "dark said;", 5, 6, 7, 1);
            e.due("row", Checks.row(x, 1, 2), 2);
            went(x, 0, 7, 7 + 6 + 7, 5, 20);
        });
        e.edge("40 DAYS", () -> {
            WishSea x = new WishSea();
            e.due("row", Checks.row(x, Shores.steps(40, 255)), 40);
            went(x, 0, 0, 0, 40, 0);
        });
        e.edge("40 WISHES and DAYS", () -> {
            WishSea x = Checks.with("thing a worth 1 rhymes 1 brief;" + W + "dark 1;");
            int[] steps = new int[40];
            for (int i = 0; i < 40; i++) {
                steps[i] = i % 2 == 0 ? 0 : 255;
            }
            e.due("row", Checks.row(x, steps), 40);
            went(x, 0, 0, 20, 20, 20);
        });
        e.edge("41", () -> e.due("row", Checks.row(new WishSea(), Shores.steps(41, 255)), -1));
        e.edge("the first one MAY not be said", () -> {
            WishSea x = Checks.with(A + W + "first a;");
            e.due("row", Checks.row(x, 0), 0);
            went(x, 3, 1, 0, 0, 0);
        });
        e.edge("the last one MAY not be said", () -> {
            WishSea x = Checks.with(THREE);
            e.due("row", Checks.row(x, 0, 1, 2, 0), 3);
            went(x, 3, 7, 0, 0, 0);
        });
        e.edge("none behind the one that MAY not be said", () -> {
            WishSea x = Checks.with(THREE);
            e.due("row", Checks.row(x, 0, 0, 1, 2), 1);
            went(x, 3, 1, 0, 0, 0);
        });
        e.edge("just what the fish bears", () -> {
            WishSea x = Checks.with(THREE + "dark 20;bears 60;");
            e.due("row", Checks.row(x, 0, 1, 2), 3);
            went(x, 0, 7, 60, 0, 60);
        });
        e.edge("ONE TOO MANY by one", () -> {
            WishSea x = Checks.with(THREE + "dark 20;bears 59;");
            e.due("row", Checks.row(x, 0, 1, 2), 2);
            went(x, 6, 3, 40, 0, 40);
        });
        e.edge("brief THINGS are gone by 255", () -> {
            WishSea x = Checks.with("thing a worth 1 rhymes 1 brief;" + W);
            e.due("row", Checks.row(x, 0, 255), 2);
            went(x, 0, 0, 0, 1, 0);
        });
        e.edge("said begins anew by 255", () -> {
            WishSea x = Checks.with(THREE + "room 2-said;");
            e.due("row", Checks.row(x, 0, 1, 2), 2);
            e.due("row", Checks.row(x, 0, 1, 255, 2), 4);
        });
        e.edge("content for this DAY alone", () -> {
            WishSea x = Checks.with(THREE + "content said=1;");
            e.due("row", Checks.row(x, 0, 255, 1, 2), 3);
            went(x, 5, 3, 0, 1, 0);
        });
    }

    private void theLadder() {
        e.says("THE LADDER: sets of THINGS that one can have within this DAY, by how many WISHES (8 at most): by 0 what one has now; "
                + "by one more, from each such set, each WISH that MAY be said then (and is not ONE TOO MANY):");
        e.edge("no WISHES", () -> rungs(new WishSea(), 1));
        e.edge("by 0 what one has now", () -> {
            WishSea x = Shores.at(A, 0, 0, 9, 1);
            e.due("set", x.fewest(0, 2), 1);
            e.due("sea", x.fewest(0, 1), 9);
        });
        e.edge("8 of 9", () -> rungs(Checks.with(Shores.things(9) + Shores.wishes(9, 9)), 1, 9, 36, 84, 126, 126, 84, 36, 9));
        e.edge("8 of 8", () -> rungs(Checks.with(Shores.things(8) + Shores.wishes(8, 8)), 1, 8, 28, 56, 70, 56, 28, 8, 1));
        e.edge("7 of 7", () -> rungs(Checks.with(Shores.things(7) + Shores.wishes(7, 7)), 1, 7, 21, 35, 35, 21, 7, 1));
        e.edge("a set that is come to again and again", () -> {
            WishSea x = Checks.with("thing a worth 1 rhymes 1;thing b worth 1 rhymes 1;wish w words 0 gives a uses b;"
                    + "wish v words 0 gives b uses a;first a;");
            rungs(x, 1, 1, 1, 1, 1, 1, 1, 1, 1);
        });
        e.edge("the WISH MAY not be said for ROOM by what was said then", () -> rungs(Checks.with(THREE + "room 2-said;"), 1, 3, 3));
        e.edge("nor for CONTENT then", () -> rungs(Checks.with(THREE + "content said=1;"), 1, 3));
        e.edge("nor for CONTENT now", () -> rungs(Checks.with(THREE + "content said=0;"), 1));
        e.edge("just what the fish bears", () -> rungs(Checks.with(THREE + "dark 20;bears 60;"), 1, 3, 3, 1));
        e.edge("ONE TOO MANY by one", () -> rungs(Checks.with(THREE + "dark 20;bears 59;"), 1, 3, 3));
        e.edge("ONE TOO MANY at once", () -> rungs(Shores.at(THREE + "dark 1;bears 50;", 0, 0, 50, 0), 1));
        e.edge("within this DAY: brief THINGS stay", () -> {
            WishSea x = Checks.with(Shores.things(2, " brief") + Shores.wishes(2, 2));
            e.due("set", x.fewest(3, 2), 3);
        });
        e.edge("said goes on from now", () -> rungs(Shores.at(THREE + "room 4-said;", 0, 2, 0, 0), 1, 3, 3));
        e.edge("the darkest sea that is not too much", () -> {
            WishSea x = Shores.at(Shores.things(2) + Shores.wishes(2, 2) + "dark 99;bears 999;", 0, 0, 900, 0);
            rungs(x, 1, 2);
            e.due("sea", x.fewest(2, 1), 999);
        });
    }

    private void rungs(WishSea x, int... want) {
        for (int k = 0; k <= 8; k++) {
            e.due("ladder " + k, x.ladder(k), k < want.length ? want[k] : 0);
        }
    }

    private void alikeOnTheLadder() {
        e.says("of all that lead to one set by as many WISHES the one with the least sea counts alone; of like ones that from the "
                + "least set (as bits), then the least WISH.");
        // To {a, b}: wa ahead of wb makes it 4 + 1 dark, wb ahead of wa 2 + 2.
        String twoWays = Shores.things(3) + "wish wa words 2 gives a;wish wb words 1 gives b;dark words*(2-said);";
        e.edge("less sea by one, from the greater set", () -> {
            WishSea x = Checks.with(twoWays);
            e.due("sea", x.fewest(3, 1), 4);
            e.due("WISH ahead", x.fewest(3, 10), 1);
            e.due("WISH then", x.fewest(3, 11), 0);
        });
        e.edge("the least sea counts alone, though by one more a WISH MAY be said", () -> {
            String third = "wish wc words 0 gives c needs a b;";
            rungs(Checks.with(twoWays + third + "room (2-had)*9+sea-4;"), 1, 2, 1);
            rungs(Checks.with(twoWays + third + "room (2-had)*9+sea-3;"), 1, 2, 1, 1);
        });
        e.edge("like ones: from the least set", () -> {
            WishSea x = Checks.with(Shores.things(2) + Shores.wishes(2, 2) + "dark 5;");
            e.due("WISH ahead", x.fewest(3, 10), 0);
            e.due("WISH then", x.fewest(3, 11), 1);
        });
        e.edge("like ones: from the least set, though by a greater WISH", () -> {
            WishSea x = Checks.with(Shores.things(2) + "wish wb words 0 gives b;wish wa words 0 gives a;dark 5;");
            e.due("WISH ahead", x.fewest(3, 10), 1);
            e.due("WISH then", x.fewest(3, 11), 0);
        });
        e.edge("like ones from one set: the least WISH", () -> {
            WishSea x = Checks.with(A + Shores.wishes(12, 1) + "dark 5;");
            e.due("WISH", x.fewest(1, 10), 0);
        });
        e.edge("like ones from one set, the least WISH MAY not be said", () -> {
            WishSea x = Checks.with(A + "wish v words 0 gives a needs a;" + Shores.wishes(11, 1) + "dark 5;");
            e.due("WISH", x.fewest(1, 10), 1);
        });
        e.edge("less sea by the greatest WISH", () -> {
            WishSea x = Checks.with(A + Shores.wishes(11, 1) + "wish v words 1 gives a;dark 5-words;");
            e.due("WISH", x.fewest(1, 10), 11);
            e.due("sea", x.fewest(1, 1), 4);
        });
    }

    private void fewestThings() {
        e.says("FEWEST for some THINGS: the fewest WISHES by which there is a set with all of these; of like ones the least sea, "
                + "then the least set.");
        e.edge("for none: by 0", () -> fewest(Checks.with(THREE), 0, 0, 0, 0));
        e.edge("for what one has: by 0", () -> fewest(Shores.at(THREE, 0, 0, 5, 6), 2, 0, 5, 6));
        e.edge("for one of what one has and one more", () -> fewest(Shores.at(THREE, 0, 0, 5, 6), 3, 1, 5, 7));
        e.edge("for all", () -> fewest(Checks.with(THREE), 7, 3, 0, 7));
        e.edge("by 8", () -> fewest(Checks.with(TEN), 255, 8, 0, 255));
        e.edge("by 9: none", () -> fewest(Checks.with(TEN), 511, -1, -1, -1));
        e.edge("fewer WISHES ahead of less sea", () -> {
            WishSea x = Checks.with(Shores.things(2) + "wish wb words 0 gives b;wish wc words 9 gives a;wish wa words 0 gives a needs b;"
                    + "dark words;");
            fewest(x, 1, 1, 9, 1);
        });
        e.edge("less sea ahead of the least set", () -> {
            WishSea x = Checks.with(ABC + "wish wc words 0 gives c;wish va words 4 gives a uses c;wish wb words 0 gives b;"
                    + "wish ua words 3 gives a needs b;dark words;");
            fewest(x, 1, 2, 3, 3);
        });
        e.edge("like ones: the least set", () -> {
            WishSea x = Checks.with(ABC + "wish wc words 0 gives c;wish va words 3 gives a needs c;wish wb words 0 gives b;"
                    + "wish ua words 3 gives a needs b;dark words;");
            fewest(x, 1, 2, 3, 3);
        });
    }

    private void fewest(WishSea x, int things, int wishes, int sea, int set) {
        e.due("WISHES", x.fewest(things, 0), wishes);
        e.due("the sea", x.fewest(things, 1), sea);
        e.due("the set", x.fewest(things, 2), set);
    }

    private void mostWorth() {
        e.says("MOST by n WISHES or fewer: the set with the most worth of THINGS that are not brief; of like ones the fewest WISHES, "
                + "the least sea, the least set.");
        e.edge("by 0", () -> most(Shores.at(ABC + Shores.wishes(3, 3), 0, 0, 5, 1), 0, 1, 0, 5, 1));
        e.edge("by just as many as it takes", () -> most(Checks.with(ABC + Shores.wishes(3, 3)), 3, 7, 3, 0, 7));
        e.edge("by one fewer", () -> most(Checks.with(ABC + Shores.wishes(3, 3)), 2, 6, 2, 0, 6));
        e.edge("by more than it takes", () -> most(Checks.with(ABC + Shores.wishes(3, 3)), 8, 7, 3, 0, 7));
        e.edge("by 8 of 10", () -> most(Checks.with(TEN), 8, 8, 8, 0, 255));
        e.edge("all are brief", () -> most(Checks.with(Shores.things(3, " brief") + Shores.wishes(3, 3)), 8, 0, 0, 0, 0));
        e.edge("brief ones count for nothing, even when more worth", () -> {
            WishSea x = Checks.with("thing a worth 99 rhymes 1 brief;thing b worth 1 rhymes 1;" + Shores.wishes(2, 2));
            most(x, 1, 1, 1, 0, 2);
        });
        e.edge("a WISH that makes it less", () -> {
            WishSea x = Checks.with("thing a worth 1 rhymes 1;thing b worth 9 rhymes 1;first b;wish w words 0 gives a uses b;");
            most(x, 8, 9, 0, 0, 2);
        });
        e.edge("like worth: the fewest WISHES, though more sea", () -> {
            WishSea x = Checks.with("thing a worth 5 rhymes 1;thing b worth 5 rhymes 1;thing c worth 0 rhymes 1;"
                    + "wish wa words 9 gives a;wish wc words 0 gives c;wish wb words 0 gives b needs c;dark words;content worth=5;");
            most(x, 8, 5, 1, 9, 1);
        });
        e.edge("like WISHES: the least sea, though a greater set", () -> {
            WishSea x = Checks.with("thing a worth 5 rhymes 1;thing b worth 5 rhymes 1;wish wa words 1 gives a;wish wb words 0 gives b;"
                    + "dark words;");
            most(x, 1, 5, 1, 0, 2);
        });
        e.edge("like sea: the least set", () -> {
            WishSea x = Checks.with("thing a worth 5 rhymes 1;thing b worth 5 rhymes 1;wish wb words 1 gives b;wish wa words 1 gives a;"
                    + "dark words;");
            most(x, 1, 5, 1, 1, 1);
        });
        e.edge("worth of nothing: by 0", () -> {
            WishSea x = Checks.with("thing a worth 0 rhymes 1;" + W);
            most(x, 8, 0, 0, 0, 0);
        });
    }

    private void most(WishSea x, int n, int worth, int wishes, int sea, int set) {
        e.due("worth", x.most(n, 0), worth);
        e.due("WISHES", x.most(n, 1), wishes);
        e.due("the sea", x.most(n, 2), sea);
        e.due("the set", x.most(n, 3), set);
    }

    private void contentAtLast() {
        e.says("ENDS: the fewest WISHES by which there is a set with which one is CONTENT, of like ones the least sea, then the "
                + "least set.");
        e.edge("by 0", () -> ends(Shores.at(THREE + "content 1=1;", 0, 0, 5, 1), 0, 5, 1));
        e.edge("by 8", () -> ends(Checks.with(TEN + "content had=8;"), 8, 0, 255));
        e.edge("by 9: never", () -> ends(Checks.with(TEN + "content had=9;"), -1, -1, -1));
        e.edge("without content", () -> ends(Checks.with(THREE), -1, -1, -1));
        e.edge("ONE TOO MANY ahead of it: never", () -> ends(Checks.with(THREE + "dark 20;bears 59;content all;"), -1, -1, -1));
        e.edge("just what the fish bears", () -> ends(Checks.with(THREE + "dark 20;bears 60;content all;"), 3, 60, 7));
        e.edge("by what was said then", () -> ends(Checks.with(THREE + "content said=2;"), 2, 0, 3));
        e.edge("by the sea then", () -> ends(Checks.with(THREE + "dark 7;content sea=14;"), 2, 14, 3));
        e.edge("fewer WISHES ahead of less sea", () -> {
            WishSea x = Checks.with(ABC + "wish wa words 0 gives a;wish wc words 9 gives c;wish wb words 0 gives b needs a;dark words;"
                    + "content worth>2;");
            ends(x, 1, 9, 4);
        });
        e.edge("less sea ahead of the least set", () -> {
            WishSea x = Checks.with(Shores.things(2) + "wish wa words 1 gives a;wish wb words 0 gives b;dark words;content said=1;");
            ends(x, 1, 0, 2);
        });
        e.edge("like ones: the least set", () -> {
            WishSea x = Checks.with(Shores.things(2) + "wish wb words 1 gives b;wish wa words 1 gives a;dark words;content said=1;");
            ends(x, 1, 1, 1);
        });
    }

    private void ends(WishSea x, int wishes, int sea, int set) {
        e.due("WISHES", x.ends(0), wishes);
        e.due("the sea", x.ends(1), sea);
        e.due("the set", x.ends(2), set);
    }

    private void row() {
        e.promise(16, "int row()");
        e.says("The tape (it goes, refused or not) is a ROW, a byte each: how many are gone through (those that end it not counted);");
        e.edge("an empty tape", () -> e.due("row", new WishSea().row(), 0));
        e.edge("it goes", () -> {
            WishSea x = Checks.with(A + W);
            e.due("row", Checks.row(x, 0), 1);
            e.due("gone", x.end(1), false);
        });
        e.edge("it goes when refused", () -> {
            WishSea x = Checks.with(A + W);
            e.due("row", Checks.row(x, 9), -1);
            e.due("gone", x.end(1), false);
        });
        e.edge("the one that MAY not be said is not counted", () -> e.due("row", Checks.row(Checks.with(A + W), 0, 0), 1));
        e.edge("the one that is ONE TOO MANY is not counted", () ->
                e.due("row", Checks.row(Checks.with(THREE + "dark 2;bears 3;"), 0, 1, 2), 1));
        e.edge("the DAY beyond 9999 is not counted", () ->
                e.due("row", Checks.row(Shores.at("", 9998, 0, 0, 0), 255, 255), 1));
        e.edge("nothing is said", () -> {
            WishSea x = Checks.with(A + W + "dark 5;");
            Checks.row(x, 0, 255);
            e.due("had, sea, said, DAY", x.has(2) + x.has(4) + x.has(5) + x.has(6), 0);
        });
        e.edge("its end is the tape's: no byte behind it counts", () -> {
            WishSea x = Checks.with(THREE);
            x.feed(0x00010200, 0, 0, 0, 0);
            x.end(2);
            e.due("row", x.row(), 2);
            e.due("why", x.went(0), 0);
        });
        e.says("NONE, refused (5), when there are more than 40, or one is none such.");
        e.edge("40 that end at once", () -> e.due("row", Checks.row(Checks.with(A + W + "first a;"), Shores.steps(40, 0)), 0));
        e.edge("41", () -> refusedRow(A + W, Shores.steps(41, 0)));
        e.edge("1600", () -> refusedRow(A + W, Shores.steps(1600, 255)));
        e.edge("WISH 1 of one", () -> refusedRow(A + W, 1));
        e.edge("WISH 12 of twelve", () -> refusedRow(A + Shores.wishes(12, 1), 12));
        e.edge("WISH 0 of none", () -> refusedRow(A, 0));
        e.edge("254", () -> refusedRow(A + W, 254));
        e.edge("none such behind the one that ends it", () -> refusedRow(A + W + "first a;", 0, 1));
        e.edge("none such as the 40th", () -> {
            int[] steps = Shores.steps(40, 255);
            steps[39] = 1;
            refusedRow(A + W, steps);
        });
    }

    private void refusedRow(String text, int... steps) {
        WishSea x = Checks.with(text);
        e.due("row", Checks.row(x, steps), -1);
        e.due("status(5)", x.status(5), 1);
        e.due("went", x.went(0), -1);
        e.due("gone", x.end(1), false);
    }

    private void went() {
        e.promise(17, "int went(int what)");
        e.says("Of the latest row() of this SHORE: 0 why it ended (0 its end, 1 .. 5 as a WISH that MAY not be said, 6 ONE TOO MANY, "
                + "7 a DAY beyond 9999), 1 THINGS had then as bits, 2 the sea, 3 the DAY (of each ahead of what ended it), 4 the "
                + "greatest sea up to there (as it was ahead of the ROW, too).");
        e.edge("0", () -> e.due("why", why(ABC + "wish w words 0 gives a;", 0), 0));
        e.edge("1", () -> e.due("why", why(ABC + "wish w words 0 gives a needs b;", 0), 1));
        e.edge("2", () -> e.due("why", why(ABC + "wish w words 0 gives a uses b;", 0), 2));
        e.edge("3", () -> e.due("why", why(ABC + "wish w words 0 gives a;first a;", 0), 3));
        e.edge("4", () -> e.due("why", why(ABC + "wish w words 0 gives a;room 0;", 0), 4));
        e.edge("5", () -> e.due("why", why(ABC + "wish w words 0 gives a;content 1=1;", 0), 5));
        e.edge("6", () -> e.due("why", why(ABC + "wish w words 0 gives a;dark 2;bears 1;", 0), 6));
        e.edge("7", () -> {
            WishSea x = Shores.at(A + W + "calm 4;dark 9;", 9999, 0, 30, 0);
            e.due("row", Checks.row(x, 0, 255), 1);
            went(x, 7, 1, 39, 9999, 39);
        });
        e.edge("to DAY 9999 itself", () -> {
            WishSea x = Shores.at("calm 4;", 9998, 0, 30, 0);
            e.due("row", Checks.row(x, 255), 1);
            went(x, 0, 0, 26, 9999, 30);
        });
        e.edge("the greatest sea is the one ahead", () -> {
            WishSea x = Shores.at(A + W + "calm 10;dark 9;", 0, 0, 30, 0);
            Checks.row(x, 255, 0);
            went(x, 0, 1, 29, 1, 30);
        });
        e.edge("the greatest sea is one between", () -> {
            WishSea x = Shores.at(A + W + "calm 10;dark 9;", 0, 0, 30, 0);
            Checks.row(x, 0, 255);
            went(x, 0, 1, 29, 1, 39);
        });
        e.edge("the sea of what was ONE TOO MANY isn't the greatest", () -> {
            WishSea x = Checks.with(A + W + "dark 9;bears 8;");
            Checks.row(x, 0);
            went(x, 6, 0, 0, 0, 0);
        });
        e.edge("the latest one", () -> {
            WishSea x = Checks.with(A + W);
            Checks.row(x, 0, 0);
            Checks.row(x, 255);
            went(x, 0, 0, 0, 1, 0);
        });
        e.edge("it stays when ACTS follow", () -> {
            WishSea x = Checks.with(A + W);
            Checks.row(x, 255, 255);
            x.say(0);
            x.night();
            went(x, 0, 0, 0, 2, 0);
        });
        e.says("NONE ahead of any, or for others.");
        e.edge("ahead of any", () -> {
            for (int what = 0; what < 5; what++) {
                e.due("went " + what, Checks.with(A + W).went(what), -1);
            }
        });
        e.edge("of a new object", () -> {
            for (int what = 0; what < 5; what++) {
                e.due("went " + what, new WishSea().went(what), -1);
            }
        });
        e.edge("ahead of any of this SHORE", () -> {
            WishSea x = Checks.with(A + W);
            Checks.row(x, 0);
            Checks.shore(x, A + W);
            for (int what = 0; what < 5; what++) {
                e.due("went " + what, x.went(what), -1);
            }
        });
        e.edge("behind a refused SHORE it stays", () -> {
            WishSea x = Checks.with(A + W);
            Checks.row(x, 0);
            Checks.shore(x, "calm");
            went(x, 0, 1, 0, 0, 0);
        });
        e.edge("-1", () -> e.due("went", afterRow().went(-1), -1));
        e.edge("5", () -> e.due("went", afterRow().went(5), -1));
        e.edge("far ones", () -> {
            WishSea x = afterRow();
            for (int far : Shores.FAR) {
                e.due("went " + far, x.went(far), -1);
            }
        });
    }

    private static int why(String text, int step) {
        WishSea x = Checks.with(text);
        Checks.row(x, step);
        return x.went(0);
    }

    private static WishSea afterRow() {
        WishSea x = Checks.with(A + W);
        Checks.row(x, 0);
        return x;
    }

    private void ladder() {
        e.promise(18, "int ladder(int k)");
        e.says("THE LADDER: how many sets by k WISHES (0 .. 8);");
        e.edge("0", () -> e.due("ladder", Checks.with(TEN).ladder(0), 1));
        e.edge("8", () -> e.due("ladder", Checks.with(TEN).ladder(8), 45));
        e.edge("5, the most of ten", () -> e.due("ladder", Checks.with(TEN).ladder(5), 252));
        e.edge("1 of none", () -> e.due("ladder", new WishSea().ladder(1), 0));
        e.edge("0 of none", () -> e.due("ladder", new WishSea().ladder(0), 1));
        e.edge("it follows a WISH, a DAY, an undone one, an image and a SHORE", () -> {
            WishSea x = Checks.with(Shores.things(3, " brief") + Shores.wishes(3, 3));
            e.due("first", x.ladder(1), 3);
            x.say(0);
            e.due("said", x.ladder(1), 2);
            x.night();
            e.due("night", x.ladder(1), 3);
            x.undo();
            e.due("undone", x.ladder(1), 2);
            Checks.on(x, ImageTest.bytes(0, 0, 0, 6));
            e.due("image", x.ladder(1), 1);
            Checks.shore(x, A);
            e.due("SHORE", x.ladder(1), 0);
        });
        e.edge("it follows the THINGS alone", () -> follows(0, 0, 0, 6));
        e.edge("it follows the sea alone", () -> follows(0, 0, 100, 0));
        e.edge("it follows what was said alone", () -> follows(0, 2, 0, 0));
        e.edge("it follows the DAY alone", () -> follows(2, 0, 0, 0));
        e.edge("it follows the SHORE alone", () -> {
            WishSea x = Checks.with(THREE);
            e.due("first", x.ladder(1), 3);
            Checks.shore(x, Shores.things(3) + Shores.wishes(2, 3));
            e.due("then", x.ladder(1), 2);
        });
        e.says("NONE for others.");
        e.edge("-1", () -> e.due("ladder", Checks.with(TEN).ladder(-1), -1));
        e.edge("9", () -> e.due("ladder", Checks.with(TEN).ladder(9), -1));
        e.edge("far ones", () -> {
            for (int far : Shores.FAR) {
                e.due("ladder " + far, Checks.with(A).ladder(far), -1);
            }
        });
    }

    /** At first there are three sets by one WISH; at this state fewer. */
    private void follows(int day, int said, int sea, int things) {
        WishSea x = Checks.with(THREE + "dark 1;room 2-said-day;");
        e.due("first", x.ladder(1), 3);
        Checks.on(x, ImageTest.bytes(day, said, sea, things));
        e.due("then", x.ladder(1), things == 6 ? 1 : 0);
        Checks.on(x, ImageTest.bytes(0, 0, 0, 0));
        e.due("at first again", x.ladder(1), 3);
    }

    private void fewest() {
        e.promise(19, "int fewest(int things, int what)");
        e.says("FEWEST for THINGS as bits: WISHES (what 0), the sea (1), the set (2), the k-th WISH (10 and k).");
        e.edge("no THINGS", () -> fewest(Checks.with(TEN), 0, 0, 0, 0));
        e.edge("the tenth THING", () -> fewest(Checks.with(TEN), 512, 1, 0, 512));
        e.edge("k 0", () -> e.due("WISH", Checks.with(TEN).fewest(255, 10), 0));
        e.edge("k 7 of eight", () -> e.due("WISH", Checks.with(TEN).fewest(255, 17), 7));
        e.edge("the k-th WISH is the twelfth one", () -> {
            WishSea x = Checks.with(Shores.things(2) + Shores.wishes(11, 1) + "wish v words 0 gives b;");
            e.due("WISH", x.fewest(2, 10), 11);
        });
        e.edge("of no THINGS at all", () -> fewest(new WishSea(), 0, 0, 0, 0));
        e.says("NONE when there is none such, or for others.");
        e.edge("k 0 of none", () -> e.due("WISH", Checks.with(TEN).fewest(0, 10), -1));
        e.edge("k 1 of one", () -> e.due("WISH", Checks.with(TEN).fewest(1, 11), -1));
        e.edge("k 8 of eight", () -> e.due("WISH", Checks.with(TEN).fewest(255, 18), -1));
        e.edge("a THING that can't be had", () -> fewest(Checks.with(A + "thing b worth 1 rhymes 1;" + W), 2, -1, -1, -1));
        e.edge("an eleventh THING", () -> fewest(Checks.with(TEN), 1024, -1, -1, -1));
        e.edge("an eleventh THING with one that can be had", () -> fewest(Checks.with(TEN), 1025, -1, -1, -1));
        e.edge("a second THING of one", () -> fewest(Checks.with(A + W), 2, -1, -1, -1));
        e.edge("a THING of none", () -> fewest(new WishSea(), 1, -1, -1, -1));
        e.edge("all bits", () -> fewest(Checks.with(TEN), -1, -1, -1, -1));
        e.edge("the highest bit", () -> fewest(Checks.with(TEN), Shores.MIN, -1, -1, -1));
        e.edge("all bits but the highest", () -> fewest(Checks.with(TEN), Shores.MAX, -1, -1, -1));
        for (int what : new int[] {-1, 3, 4, 9}) {
            e.edge("what " + what, () -> e.due("fewest", Checks.with(TEN).fewest(255, what), -1));
        }
        e.edge("far ones", () -> {
            WishSea x = Checks.with(TEN);
            for (int far : Shores.FAR) {
                e.due("what " + far, x.fewest(255, far), -1);
            }
        });
    }

    private void most() {
        e.promise(20, "int most(int n, int what)");
        e.says("MOST by n WISHES (0 .. 8) or fewer: worth (what 0), WISHES (1), the sea (2), the set (3).");
        e.edge("n 0", () -> most(Checks.with(TEN), 0, 0, 0, 0, 0));
        e.edge("n 1", () -> most(Checks.with(TEN), 1, 1, 1, 0, 1));
        e.edge("n 7", () -> most(Checks.with(TEN), 7, 7, 7, 0, 127));
        e.edge("n 8", () -> most(Checks.with(TEN), 8, 8, 8, 0, 255));
        e.edge("n 8 of no WISHES", () -> most(new WishSea(), 8, 0, 0, 0, 0));
        e.edge("n 0 with all", () -> most(Shores.at(TEN, 0, 0, 3, 1023), 0, 10, 0, 3, 1023));
        e.says("NONE when n can't be, or for others.");
        e.edge("n -1", () -> most(Checks.with(TEN), -1, -1, -1, -1, -1));
        e.edge("n 9", () -> most(Checks.with(TEN), 9, -1, -1, -1, -1));
        e.edge("what -1", () -> e.due("most", Checks.with(TEN).most(8, -1), -1));
        e.edge("what 4", () -> e.due("most", Checks.with(TEN).most(8, 4), -1));
        e.edge("far ones", () -> {
            WishSea x = Checks.with(TEN);
            for (int far : Shores.FAR) {
                e.due("n " + far, x.most(far, 0), -1);
                e.due("what " + far, x.most(8, far), -1);
            }
        });
    }

    private void ends() {
        e.promise(21, "int ends(int what)");
        e.says("ENDS: WISHES (what 0), the sea (1), the set (2).");
        e.edge("at once", () -> ends(Checks.with("content all;"), 0, 0, 0));
        e.edge("by 8", () -> ends(Checks.with(TEN + "content worth=8;"), 8, 0, 255));
        e.says("NONE when one is never CONTENT, or for others.");
        e.edge("never", () -> ends(Checks.with(TEN + "content worth=11;"), -1, -1, -1));
        e.edge("not within eight", () -> ends(Checks.with(TEN + "content all;"), -1, -1, -1));
        e.edge("without", () -> ends(new WishSea(), -1, -1, -1));
        e.edge("what -1", () -> e.due("ends", Checks.with("content all;").ends(-1), -1));
        e.edge("what 3", () -> e.due("ends", Checks.with("content all;").ends(3), -1));
        e.edge("far ones", () -> {
            for (int far : Shores.FAR) {
                e.due("ends " + far, Checks.with("content all;").ends(far), -1);
            }
        });
    }
}
