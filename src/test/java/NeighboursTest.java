/** Promises 26 and 27: rivals, before. */
public final class NeighboursTest {
    private static final Checks C = new Checks();

    public static void main(String[] args) {
        turns();
        oneTooMany();
        atOneFish();
        othersAreNothing();
        before();
        C.end();
    }

    private static void rivals(String when, WishSea x, int n, int margin, int... moves) {
        C.due(when + ": margin", x.rivals(n, -1), margin);
        for (int k = 0; k < n; k++) {
            C.due(when + ": turn " + k, x.rivals(n, k), moves[k]);
        }
    }

    private static void turns() {
        C.says("by turns, the first one ahead, n turns (4 at most): each turn a WISH that he MAY say by his own THINGS, "
                + "or none;");
        WishSea x = Checks.with("thing a worth 5 rhymes 1;thing b worth 9 rhymes 1;thing c worth 9 rhymes 1;"
                + "wish wa words 0 gives a;wish wb words 0 gives b;wish wc words 0 gives c;first a;");
        rivals("none", x, 0, 0);
        rivals("the first of like ones", x, 1, 9, 1);
        rivals("two", x, 2, 0, 1, 1);
        rivals("three", x, 3, 9, 1, 1, 2);
        rivals("four", x, 4, 0, 1, 1, 2, 2);
        C.says("NEIGHBOURS: two fishers, each with the THINGS that are had at first, at one fish (a sea of 0, DAY 0; said "
                + "counts both);");
        // Not from now on: as at first, whatever was said.
        x.say(1);
        x.night();
        rivals("as at first", x, 3, 9, 1, 1, 2);
        C.says("Each wants his worth at the end less the other one's to be most (of like ones the first WISH, none behind "
                + "all).");
        WishSea y = Checks.with("thing a worth 5 rhymes 1;thing b worth 0 rhymes 1;first a;wish wb words 0 gives b uses a;");
        rivals("none is better", y, 2, 0, 20, 20);
        WishSea z = Checks.with("thing b worth 0 rhymes 1;wish wb words 0 gives b;wish vb words 0 gives b;");
        rivals("a WISH ahead of none", z, 3, 0, 0, 0, 20);
    }

    private static void oneTooMany() {
        C.says("if it is ONE TOO MANY, both are as at first, and it is over.");
        // The second one is behind, and a second WISH is one too many: he says it, and both are as at first.
        WishSea x = Checks.with("thing a worth 5 rhymes 1;thing b worth 1 rhymes 1;wish wb words 0 gives a uses b;first b;"
                + "dark 40;bears 60;");
        rivals("one", x, 1, 4, 0);
        rivals("two", x, 2, 0, 0, 0);
        rivals("over", x, 3, 0, 0, 0, 20);
        rivals("over", x, 4, 0, 0, 0, 20, 20);
        WishSea y = Checks.with("thing a worth 5 rhymes 1;thing c worth 9 rhymes 1;wish wa words 0 gives a;wish wc words 9 gives c;"
                + "dark words*10+5;bears 50;");
        // As dark as the fish just bears is not too much: it goes on.
        WishSea z = Checks.with("thing a worth 5 rhymes 1;thing b worth 1 rhymes 1;wish wb words 0 gives b uses a;wish wa words 0 gives a;"
                + "dark 40;bears 40;");
        rivals("just so much", z, 1, 5, 1);
        rivals("just so much", z, 2, 0, 1, 1);
        WishSea w = Checks.with("thing a worth 5 rhymes 1;wish wa words 0 gives a;dark 20;bears 40;");
        rivals("just so much for both", w, 4, 0, 0, 0, 20, 20);
        // Whoever says wc (95) makes it one too many.
        rivals("one", y, 1, 5, 0);
        rivals("two", y, 2, 0, 0, 0);
        rivals("three: WISHES ahead of none, though it is over by one", y, 3, 0, 0, 0, 1);
    }

    private static void atOneFish() {
        C.says("at one fish (a sea of 0, DAY 0; said counts both);");
        // Said counts both: from the second WISH on all are as dark as the sea bears no more.
        WishSea x = Checks.with("thing a worth 5 rhymes 1;wish wa words 0 gives a;dark said*99;bears 90;");
        rivals("two", x, 2, 0, 0, 0);
        rivals("three", x, 3, 0, 0, 0, 20);
        // ROOM by the sea of both: behind the first WISH none is short enough.
        WishSea y = Checks.with("thing a worth 5 rhymes 1;wish wa words 0 gives a;dark 30;room 1-sea;");
        rivals("room", y, 4, 5, 0, 20, 20, 20);
        // Said counts both for ROOM: the third WISH is too long.
        WishSea v = Checks.with("thing a worth 5 rhymes 1;thing b worth 3 rhymes 1;wish wa words 0 gives a;wish wb words 0 gives b;"
                + "room 2-said-day;");
        rivals("said", v, 1, 5, 0);
        rivals("said", v, 3, 0, 0, 0, 20);
        v.night();
        C.due("DAY 1 has less room", v.has(7), 1);
        Checks.shore(v, "thing a worth 5 rhymes 1;wish wa words 0 gives a;content day=1;");
        rivals("DAY 0", v, 1, 5, 0);
        C.says("each turn a WISH that he MAY say by his own THINGS, or none;");
        // CONTENT by his own THINGS.
        WishSea z = Checks.with("thing a worth 5 rhymes 1;thing b worth 5 rhymes 1;wish wa words 0 gives a;wish wb words 0 gives b;"
                + "content worth>0;");
        rivals("content", z, 4, 0, 0, 0, 20, 20);
        C.says("(a sea of 0, DAY 0; said counts both)");
        // A DAY of 0, and dark by his own THINGS, as they are ahead of the WISH.
        WishSea w = Checks.with("thing a worth 5 rhymes 1;thing b worth 6 rhymes 1;wish wa words 0 gives a;wish wb words 0 gives b;"
                + "dark worth*10+day*99;bears 55;");
        w.night();
        rivals("own", w, 3, 5, 0, 1, 1);
    }

    private static void othersAreNothing() {
        C.says("NEIGHBOURS, n turns (0 .. 4): the first one's worth less the other one's (k NONE), what is said in turn k "
                + "(0 and on; 20: none, or it is over). NOTHING for others.");
        WishSea x = Checks.with("thing a worth 5 rhymes 1;wish wa words 0 gives a;");
        int[][] others = {{-1, -1}, {5, -1}, {2, -2}, {2, 2}, {0, 0}, {4, 4}, {-1, 0}, {5, 0}, {2147483647, 0}, {1, 2147483647},
            {1, -2147483648}};
        for (int[] other : others) {
            C.due("rivals " + other[0] + " " + other[1], x.rivals(other[0], other[1]), -1000000000);
        }
        C.due("rivals 4 3", x.rivals(4, 3), 20);
    }

    private static void before() {
        C.says("BEFORE: sets of THINGS that one could have had ahead of a DAY's end so that one has what one has now "
                + "behind it.");
        WishSea x = Checks.with("thing a worth 5 rhymes 1 brief;thing b worth 5 rhymes 1;thing c worth 5 rhymes 1 brief;first b;"
                + "wish wc words 0 gives c;");
        C.due("sets", x.before(0), 4);
        C.due("least", x.before(1), 2);
        C.due("greatest", x.before(2), 7);
        C.says("BEFORE: how many sets (what 0), the least (1; NONE without), the greatest (2; likewise). NONE for others.");
        C.due("before 3", x.before(3), -1);
        C.due("before -1", x.before(-1), -1);
        x.say(0);
        C.due("brief ones are none behind a DAY", x.before(0), 0);
        C.due("least of none", x.before(1), -1);
        C.due("greatest of none", x.before(2), -1);
        x.night();
        C.due("again", x.before(0), 4);
        WishSea y = Checks.with("thing a worth 5 rhymes 1;");
        C.due("no brief ones", y.before(0), 1);
        C.due("no brief ones", y.before(2), 0);
        C.due("no THINGS", new WishSea().before(0), 1);
        C.due("no THINGS", new WishSea().before(1), 0);
    }
}
