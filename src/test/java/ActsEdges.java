/** The boundary cases of DAYS and ACTS: the second half of part II, and promises 10 to 15. */
final class ActsEdges {
    private static final String A = "thing a worth 1 rhymes 1;";
    private static final String W = "wish w words 0 gives a;";
    private static final String BRIEF = "thing a worth 1 rhymes 1 brief;";

    private final Edges e;

    private ActsEdges(Edges e) {
        this.e = e;
    }

    static void run(Edges e) {
        ActsEdges edges = new ActsEdges(e);
        e.under("## Terms", "## Promise 1:");
        edges.aDayEnds();
        edges.acts();
        edges.aDayBySeed();
        edges.kept();
        edges.lastTwenty();
        edges.drawing();
        edges.saying();
        edges.nights();
        edges.days();
        edges.undoing();
        edges.seeding();
        edges.tellingKept();
    }

    private int seaBehindNight(int calm, int sea) {
        WishSea x = Shores.at("bears 999;calm " + calm + ";", 0, 0, sea, 0);
        x.night();
        return x.has(4);
    }

    private void aDayEnds() {
        e.says("A DAY ends: brief THINGS are gone, the sea is lighter by calm (0 at least), none was said, DAY is one more "
                + "(9999 at most).");
        e.edge("no brief THINGS", () -> {
            WishSea x = Checks.with(Shores.things(10) + Shores.firsts(10));
            x.night();
            e.due("had", x.has(2), 1023);
        });
        e.edge("all ten are brief", () -> {
            WishSea x = Checks.with(Shores.things(10, " brief") + Shores.firsts(10));
            x.night();
            e.due("had", x.has(2), 0);
        });
        e.edge("the last one alone is brief", () -> {
            WishSea x = Checks.with(Shores.things(9) + "thing j worth 1 rhymes 1 brief;" + Shores.firsts(10));
            x.night();
            e.due("had", x.has(2), 511);
        });
        e.edge("a brief one that one hasn't", () -> {
            WishSea x = Checks.with(BRIEF + "thing b worth 1 rhymes 1;first b;");
            x.night();
            e.due("had", x.has(2), 2);
        });
        e.edge("a sea one above calm", () -> e.due("sea", seaBehindNight(7, 8), 1));
        e.edge("a sea of calm", () -> e.due("sea", seaBehindNight(7, 7), 0));
        e.edge("a sea one below calm", () -> e.due("sea", seaBehindNight(7, 6), 0));
        e.edge("a sea of 0", () -> e.due("sea", seaBehindNight(999, 0), 0));
        e.edge("a calm of 0", () -> e.due("sea", seaBehindNight(0, 999), 999));
        e.edge("a calm of 999", () -> e.due("sea", seaBehindNight(999, 999), 0));
        e.edge("a calm of 998", () -> e.due("sea", seaBehindNight(998, 999), 1));
        e.edge("9999 said", () -> {
            WishSea x = Shores.at("", 0, 9999, 0, 0);
            x.night();
            e.due("said", x.has(5), 0);
        });
        e.edge("none said", () -> {
            WishSea x = Checks.with("");
            x.night();
            e.due("said", x.has(5), 0);
        });
        e.edge("DAY 0", () -> e.due("night", Checks.with("").night(), 1));
        e.edge("DAY 255, where a byte ends", () -> e.due("night", Shores.at("", 255, 0, 0, 0).night(), 256));
        e.edge("DAY 9998", () -> e.due("night", Shores.at("", 9998, 0, 0, 0).night(), 9999));
        e.edge("DAY 9999", () -> {
            WishSea x = Shores.at(BRIEF + "calm 5;", 9999, 3, 50, 1);
            e.due("night", x.night(), -1);
            e.due("had", x.has(2), 1);
            e.due("sea", x.has(4), 50);
            e.due("said", x.has(5), 3);
            e.due("DAY", x.has(6), 9999);
        });
    }

    private void acts() {
        e.says("ACTS: a WISH is said; a DAY ends; DAYS by the seed.");
        e.edge("a WISH", () -> {
            WishSea x = Checks.with(A + W);
            x.say(0);
            e.due("ACTS", x.has(12), 1);
        });
        e.edge("a WISH that was ONE TOO MANY", () -> {
            WishSea x = Checks.with(A + W + "dark 2;bears 1;");
            x.say(0);
            e.due("ACTS", x.has(12), 1);
        });
        e.edge("a DAY", () -> {
            WishSea x = new WishSea();
            x.night();
            e.due("ACTS", x.has(12), 1);
        });
        e.edge("one DAY by the seed", () -> {
            WishSea x = new WishSea();
            x.days(1);
            e.due("ACTS", x.has(12), 1);
        });
        e.edge("40 DAYS by the seed", () -> {
            WishSea x = Checks.with(BRIEF + W);
            x.days(40);
            e.due("ACTS", x.has(12), 1);
        });
        e.edge("refused ones are none", () -> {
            WishSea x = Shores.at(A + W, 9999, 0, 0, 1);
            x.say(0);
            x.say(1);
            x.night();
            x.days(1);
            x.days(0);
            e.due("ACTS", x.has(12), 0);
        });
        e.edge("all other calls are none", () -> {
            WishSea x = Checks.with(A + W);
            x.seed(5);
            Checks.row(x, 0, 255);
            Checks.stop(x, 0);
            Checks.falls(x, 0, 1, 1);
            x.image();
            x.ladder(8);
            x.rivals(4, 0);
            e.due("ACTS", x.has(12), 0);
        });
    }

    // ---- DRAWS, reckoned here once more

    private static long next(long x) {
        return (1103515245L * x + 12345L) % 2147483648L;
    }

    private static int drawn(long x, int m) {
        return (int) (x / 64 % m);
    }

    /** The least seed by which so many are drawn of 4, and behind that this one of m. */
    private static int seedFor(int often, int m, int second) {
        int seed = 0;
        while (drawn(next(seed), 4) != often || drawn(next(next(seed)), m) != second) {
            seed++;
        }
        return seed;
    }

    private static WishSea seeded(String text, int seed) {
        WishSea x = Checks.with(text);
        x.seed(seed);
        return x;
    }

    private void aDayBySeed() {
        e.says("A DAY by the seed: so often as a DRAW of 4 tells: one of the WISHES that MAY be said, by a DRAW of as many as these "
                + "are, by numbers (none, no DRAW, when there are none); then the DAY ends.");
        for (int often = 0; often < 4; often++) {
            int times = often;
            e.edge("a DRAW of " + often + ", WISHES enough", () -> {
                int seed = seedFor(times, 10, 0);
                WishSea x = seeded(Shores.things(10) + Shores.wishes(10, 10), seed);
                e.due("days", x.days(1), times);
                long due = next(seed);
                for (int i = 0; i < times; i++) {
                    due = next(due);
                }
                e.due("seed", x.has(13), due);
                e.due("KEPT", x.has(11), times);
            });
            e.edge("a DRAW of " + often + ", no WISHES", () -> {
                int seed = seedFor(times, 10, 0);
                WishSea x = seeded("", seed);
                e.due("days", x.days(1), 0);
                e.due("seed", x.has(13), next(seed));
            });
            e.edge("a DRAW of " + often + ", one WISH: a DRAW of 1 for it, none then", () -> {
                int seed = seedFor(times, 10, 7);
                WishSea x = seeded(A + W, seed);
                e.due("days", x.days(1), Math.min(1, times));
                e.due("seed", x.has(13), times == 0 ? next(seed) : next(next(seed)));
            });
        }
        for (int which : new int[] {0, 1, 10, 11}) {
            e.edge("of 12 the one of number " + which, () -> {
                WishSea x = seeded(A + Shores.wishes(12, 1), seedFor(1, 12, which));
                e.due("days", x.days(1), 1);
                e.due("WISH", x.kept(0, 1), which);
            });
        }
        e.edge("by numbers of those that MAY be said, the first one", () -> e.due("WISH", pickedOfThree(0), 1));
        e.edge("by numbers of those that MAY be said, the last one", () -> e.due("WISH", pickedOfThree(2), 4));
        e.edge("when one is CONTENT", () -> {
            int seed = seedFor(3, 10, 0);
            WishSea x = seeded(A + W + "content 1=1;", seed);
            e.due("days", x.days(1), 0);
            e.due("seed", x.has(13), next(seed));
        });
        e.edge("CONTENT between two", () -> {
            int seed = seedFor(3, 10, 0);
            WishSea x = seeded(Shores.things(10) + Shores.wishes(10, 10) + "content said=2;", seed);
            e.due("days", x.days(1), 2);
            e.due("seed", x.has(13), next(next(next(seed))));
        });
        e.edge("ONE TOO MANY between two: it goes on", () -> {
            int seed = seedFor(3, 1, 0);
            WishSea x = seeded(A + W + "dark 2;bears 1;", seed);
            e.due("days", x.days(1), 3);
            e.due("KEPT", x.has(11), 3);
            e.due("ONE TOO MANY", x.kept(0, 3) + x.kept(1, 3) + x.kept(2, 3), 3);
            e.due("seed", x.has(13), next(next(next(next(seed)))));
        });
        e.edge("then the DAY ends", () -> {
            WishSea x = seeded(BRIEF + W + "dark 9;calm 2;", seedFor(1, 1, 0));
            x.days(1);
            e.due("had", x.has(2), 0);
            e.due("sea", x.has(4), 7);
            e.due("said", x.has(5), 0);
            e.due("DAY", x.has(6), 1);
            e.due("KEPT of the DAY before", x.kept(0, 0), 0);
        });
    }

    /** Of six WISHES those of the numbers 1, 3 and 4 MAY be said. */
    private int pickedOfThree(int k) {
        WishSea x = seeded(A + "thing b worth 1 rhymes 1;first b;wish wa words 0 gives b;wish wb words 0 gives a;"
                + "wish wc words 0 gives b;wish wd words 0 gives a;wish we words 0 gives a;wish wf words 0 gives b;", seedFor(1, 3, k));
        x.days(1);
        return x.kept(0, 1);
    }

    /** That many WISHES are said, one each DAY; the sea is as dark as the DAY. */
    private static WishSea saidDaily(int count) {
        WishSea x = Checks.with(BRIEF + W + "dark day-sea;bears 999;");
        for (int i = 0; i < count; i++) {
            x.say(0);
            x.night();
        }
        return x;
    }

    private void kept() {
        e.says("KEPT is each WISH said: DAY, WISH, the sea behind it (0 of one that was ONE TOO MANY), 1 if it was that, else 0 "
                + "(the last 50 are told).");
        for (int count : new int[] {0, 1, 49, 50, 51, 99, 100, 101}) {
            e.edge(count + " said", () -> {
                WishSea x = saidDaily(count);
                int told = Math.min(50, count);
                e.due("told", x.has(11), told);
                e.due("the oldest DAY", x.kept(0, 0), count == 0 ? -1 : count - told);
                e.due("the oldest sea", x.kept(0, 2), count == 0 ? -1 : count - told);
                e.due("the latest DAY", x.kept(told - 1, 0), count == 0 ? -1 : count - 1);
                e.due("behind the latest", x.kept(told, 0), -1);
            });
        }
        e.edge("a sea of just what it bears", () -> {
            WishSea x = Checks.with(A + W + "dark 5;bears 5;");
            x.say(0);
            e.due("sea", x.kept(0, 2), 5);
            e.due("ONE TOO MANY", x.kept(0, 3), 0);
        });
        e.edge("ONE TOO MANY by one", () -> {
            WishSea x = Checks.with(A + W + "dark 6;bears 5;");
            x.say(0);
            e.due("sea", x.kept(0, 2), 0);
            e.due("ONE TOO MANY", x.kept(0, 3), 1);
        });
        e.edge("a sea of 0 that is none", () -> {
            WishSea x = Checks.with(A + W);
            x.say(0);
            e.due("sea", x.kept(0, 2), 0);
            e.due("ONE TOO MANY", x.kept(0, 3), 0);
        });
        e.edge("the greatest of each", () -> {
            WishSea x = Shores.at(A + Shores.wishes(12, 1) + "dark 99;bears 999;", 9999, 0, 900, 0);
            x.say(11);
            e.due("DAY", x.kept(0, 0), 9999);
            e.due("WISH", x.kept(0, 1), 11);
            e.due("sea", x.kept(0, 2), 999);
        });
        e.edge("refused ones are none", () -> {
            WishSea x = Checks.with(A + W + "room 0;");
            x.say(0);
            e.due("told", x.has(11), 0);
        });
        e.edge("those of rows are none", () -> {
            WishSea x = Checks.with(A + W);
            Checks.row(x, 0);
            Checks.stop(x, 0);
            e.due("told", x.has(11), 0);
        });
    }

    private void lastTwenty() {
        e.says("The last 20 ACTS can be undone.");
        for (int count : new int[] {0, 1, 19, 20, 21, 39, 40, 41}) {
            e.edge(count + " ACTS", () -> {
                WishSea x = new WishSea();
                for (int i = 0; i < count; i++) {
                    x.night();
                }
                int can = Math.min(20, count);
                e.due("can be", x.has(12), can);
                for (int i = 0; i < can; i++) {
                    e.due("undo " + i, x.undo(), true);
                    e.due("DAY", x.has(6), count - i - 1);
                }
                e.due("no more", x.undo(), false);
                e.due("DAY", x.has(6), count - can);
            });
        }
        e.edge("20 undone, 20 done, 20 undone", () -> {
            WishSea x = new WishSea();
            for (int turn = 0; turn < 2; turn++) {
                for (int i = 0; i < 20; i++) {
                    x.night();
                }
                for (int i = 0; i < 20; i++) {
                    e.due("undo", x.undo(), true);
                }
                e.due("DAY", x.has(6), 0);
                e.due("no more", x.undo(), false);
            }
        });
        e.edge("5 of 25 undone: 15 more can be, and the oldest are none", () -> {
            WishSea x = new WishSea();
            for (int i = 0; i < 25; i++) {
                x.night();
            }
            for (int i = 0; i < 5; i++) {
                x.undo();
            }
            e.due("can be", x.has(12), 15);
            x.night();
            e.due("and one more", x.has(12), 16);
        });
    }

    private void drawing() {
        e.says("A DRAW of m: x (the seed) becomes (1103515245 x + 12345) mod 2 to the 31; floor(x / 64) mod m.");
        e.edge("x 0", () -> e.due("seed", drawnFrom(0), 12345));
        e.edge("x 1", () -> e.due("seed", drawnFrom(1), 1103527590));
        e.edge("x 2, where it wraps around", () -> e.due("seed", drawnFrom(2), 59559187));
        e.edge("the greatest x", () -> e.due("seed", drawnFrom(Shores.MAX), 1043980748));
        e.edge("half of the greatest x", () -> e.due("seed", drawnFrom(1073741824), 1073754169));
        e.edge("an x that becomes 0", () -> {
            int seed = zeroAhead();
            e.due("seed", drawnFrom(seed), 0);
            WishSea x = seeded(A + W, seed);
            e.due("none is said", x.days(1), 0);
        });
        e.edge("many, one behind the other", () -> {
            WishSea x = new WishSea();
            long due = 1;
            for (int i = 0; i < 40; i++) {
                due = next(due);
            }
            x.days(40);
            e.due("seed", x.has(13), due);
            e.due("never below 0", x.has(13) >= 0, true);
        });
        e.edge("63 is 0 of 64", () -> e.due("drawn", seeded(A + W, ahead(63)).days(1), 0));
        e.edge("64 is 1 of 64", () -> e.due("drawn", seeded(A + W, ahead(64)).days(1), 1));
        e.edge("255 is 3 of 64, and 3 of 4", () ->
                e.due("drawn", seeded(Shores.things(10) + Shores.wishes(10, 10), ahead(255)).days(1), 3));
        e.edge("256 is 4 of 64, and 0 of 4", () ->
                e.due("drawn", seeded(Shores.things(10) + Shores.wishes(10, 10), ahead(256)).days(1), 0));
    }

    private static int drawnFrom(int seed) {
        WishSea x = new WishSea();
        x.seed(seed);
        x.days(1);
        return x.has(13);
    }

    private static int zeroAhead() {
        return ahead(0);
    }

    /** The x that becomes this one: the DRAW turned around by the inverse of its factor. */
    private static int ahead(long next) {
        long inverse = 1;
        for (int i = 0; i < 6; i++) {
            inverse = inverse * (2 - 1103515245L * inverse);
        }
        return (int) ((next - 12345L) * inverse & 0x7FFFFFFFL);
    }

    private void saying() {
        e.promise(10, "int say(int wish)");
        e.says("A WISH is said: the sea then (0 when it was ONE TOO MANY);");
        e.edge("a sea of 0", () -> e.due("say", Checks.with(A + W).say(0), 0));
        e.edge("a sea of what it bears", () -> e.due("say", Checks.with(A + W + "dark 50;bears 50;").say(0), 50));
        e.edge("ONE TOO MANY", () -> e.due("say", Checks.with(A + W + "dark 50;bears 49;").say(0), 0));
        e.edge("the first WISH of twelve", () -> e.due("say", Checks.with(A + Shores.wishes(12, 1) + "dark 7;").say(0), 7));
        e.edge("the last WISH of twelve", () -> e.due("say", Checks.with(A + Shores.wishes(12, 1) + "dark 7;").say(11), 7));
        e.says("NONE, refused (2), when it MAY not be, or there is none such.");
        e.edge("needs", () -> refusedSay(A + "wish w words 0 gives a needs a;", 0));
        e.edge("uses", () -> refusedSay(A + "thing b worth 1 rhymes 1;wish w words 0 gives a uses b;", 0));
        e.edge("has it", () -> refusedSay(A + W + "first a;", 0));
        e.edge("one longer than ROOM", () -> refusedSay(A + W + "room 0;", 0));
        e.edge("content", () -> refusedSay(A + W + "content 1=1;", 0));
        e.edge("WISH -1", () -> refusedSay(A + W, -1));
        e.edge("WISH 1 of one", () -> refusedSay(A + W, 1));
        e.edge("WISH 12 of twelve", () -> refusedSay(A + Shores.wishes(12, 1), 12));
        e.edge("WISH 255", () -> refusedSay(A + W, 255));
        e.edge("WISH 0 of none", () -> refusedSay(A, 0));
        e.edge("far ones", () -> {
            for (int far : Shores.FAR) {
                refusedSay(A + W, far);
            }
        });
    }

    private void refusedSay(String text, int wish) {
        WishSea x = Checks.with(text + "dark 9;");
        int had = x.has(2);
        e.due("say " + wish, x.say(wish), -1);
        e.due("status(2)", x.status(2), 1);
        e.due("had", x.has(2), had);
        e.due("sea, said, DAY, KEPT, ACTS", x.has(4) + x.has(5) + x.has(6) + x.has(11) + x.has(12), 0);
    }

    private void nights() {
        e.promise(11, "int night()");
        e.says("A DAY ends: the DAY then;");
        e.edge("from DAY 0", () -> e.due("night", new WishSea().night(), 1));
        e.edge("to DAY 9999", () -> e.due("night", Shores.at("", 9998, 0, 0, 0).night(), 9999));
        e.says("NONE, refused (3), in DAY 9999.");
        e.edge("refused", () -> {
            WishSea x = Shores.at(A, 9999, 1, 1, 1);
            e.due("night", x.night(), -1);
            e.due("night again", x.night(), -1);
            e.due("status(3)", x.status(3), 2);
            e.due("no ACT", x.has(12), 0);
            e.due("DAY", x.has(6), 9999);
        });
        e.edge("undone, it can end again", () -> {
            WishSea x = Shores.at(A, 9998, 1, 1, 1);
            x.night();
            e.due("night", x.night(), -1);
            x.undo();
            e.due("night again", x.night(), 9999);
        });
    }

    private void days() {
        e.promise(12, "int days(int n)");
        e.says("n DAYS (1 .. 40) by the seed, one ACT: how many WISHES were said;");
        e.edge("1", () -> {
            WishSea x = new WishSea();
            e.due("days", x.days(1), 0);
            e.due("DAY", x.has(6), 1);
        });
        e.edge("40", () -> {
            WishSea x = new WishSea();
            e.due("days", x.days(40), 0);
            e.due("DAY", x.has(6), 40);
        });
        e.edge("one ACT: undone at once", () -> {
            WishSea x = Checks.with(BRIEF + W);
            x.days(40);
            e.due("undo", x.undo(), true);
            e.due("DAY", x.has(6), 0);
            e.due("no more", x.undo(), false);
        });
        e.edge("how many: those that were ONE TOO MANY, too", () -> {
            WishSea x = seeded(A + W + "dark 2;bears 1;", seedFor(3, 1, 0));
            e.due("days", x.days(1), 3);
        });
        e.edge("how many: more than are told as KEPT", () -> {
            WishSea x = Checks.with(Shores.things(10, " brief") + Shores.wishes(12, 10));
            long due = 1;
            int count = 0;
            for (int day = 0; day < 40; day++) {
                due = next(due);
                int often = drawn(due, 4);
                count += often;
                for (int i = 0; i < often; i++) {
                    due = next(due);
                }
            }
            e.due("days", x.days(40), count);
            e.due("seed", x.has(13), due);
            e.due("told", x.has(11), Math.min(50, count));
        });
        e.says("NONE, refused (3), when n can't be, or beyond 9999.");
        e.edge("0", () -> refusedDays(0, 0));
        e.edge("-1", () -> refusedDays(0, -1));
        e.edge("41", () -> refusedDays(0, 41));
        e.edge("far ones", () -> {
            for (int far : Shores.FAR) {
                refusedDays(5, far);
            }
        });
        e.edge("40 from 9959", () -> endsAt9999(9959, 40));
        e.edge("40 from 9960", () -> refusedDays(9960, 40));
        e.edge("39 from 9960", () -> endsAt9999(9960, 39));
        e.edge("1 from 9998", () -> endsAt9999(9998, 1));
        e.edge("2 from 9998", () -> refusedDays(9998, 2));
        e.edge("1 from 9999", () -> refusedDays(9999, 1));
        e.edge("the greatest number from 9999, where 32 bits end", () -> refusedDays(9999, Shores.MAX));
    }

    private void endsAt9999(int day, int n) {
        WishSea x = Shores.at("", day, 0, 0, 0);
        e.due("days", x.days(n), 0);
        e.due("DAY", x.has(6), 9999);
    }

    private void refusedDays(int day, int n) {
        WishSea x = Shores.at(BRIEF + W, day, 2, 30, 1);
        x.seed(8);
        e.due("days " + n, x.days(n), -1);
        e.due("status(3)", x.status(3), 1);
        e.due("seed", x.has(13), 8);
        e.due("DAY", x.has(6), day);
        e.due("had, sea, said", x.has(2) + x.has(4) + x.has(5), 33);
        e.due("KEPT, ACTS", x.has(11) + x.has(12), 0);
    }

    private void undoing() {
        e.promise(13, "boolean undo()");
        e.says("The latest ACT is undone: all that ACTS change is as it was ahead of it (but the seed): true;");
        e.edge("a WISH", () -> {
            WishSea x = Shores.at(A + "thing b worth 1 rhymes 1;wish w words 0 gives a uses b;dark 5;", 7, 3, 40, 2);
            x.say(0);
            e.due("undo", x.undo(), true);
            asItWas(x, 2, 40, 3, 7);
        });
        e.edge("a WISH that was ONE TOO MANY", () -> {
            WishSea x = Shores.at(A + W + "thing b worth 1 rhymes 1;dark 5;bears 41;", 7, 3, 40, 2);
            x.say(0);
            e.due("undo", x.undo(), true);
            asItWas(x, 2, 40, 3, 7);
        });
        e.edge("a DAY, with a sea lighter than calm", () -> {
            WishSea x = Shores.at(BRIEF + "calm 50;", 7, 3, 40, 1);
            x.night();
            e.due("undo", x.undo(), true);
            asItWas(x, 1, 40, 3, 7);
        });
        e.edge("the last DAY", () -> {
            WishSea x = Shores.at("", 9998, 3, 40, 0);
            x.night();
            e.due("undo", x.undo(), true);
            asItWas(x, 0, 40, 3, 9998);
        });
        e.edge("40 DAYS", () -> {
            WishSea x = Shores.at(BRIEF + W + "dark 1;calm 1;", 7, 0, 40, 1);
            x.days(40);
            e.due("undo", x.undo(), true);
            asItWas(x, 1, 40, 0, 7);
        });
        e.edge("but the seed", () -> {
            WishSea x = new WishSea();
            x.seed(0);
            x.days(1);
            x.undo();
            e.due("seed", x.has(13), 12345);
        });
        e.edge("but the seed that was set behind it", () -> {
            WishSea x = new WishSea();
            x.night();
            x.seed(5);
            x.undo();
            e.due("seed", x.has(13), 5);
        });
        e.edge("KEPT: of 51 the 50th is the latest again, and the first one the oldest", () -> {
            WishSea x = saidDaily(50);
            x.say(0);
            e.due("the oldest", x.kept(0, 0), 1);
            x.undo();
            e.due("the oldest again", x.kept(0, 0), 0);
            e.due("the latest again", x.kept(49, 0), 49);
            e.due("how often", x.wish(0, 7), 50);
        });
        e.edge("KEPT: 50 that 40 DAYS drove out", () -> {
            WishSea x = Checks.with(Shores.things(10, " brief") + Shores.wishes(12, 10));
            for (int i = 0; i < 50; i++) {
                x.say(i % 10);
                x.night();
            }
            x.seed(1);
            for (int i = 0; i < 20; i++) {
                x.days(40);
            }
            e.due("driven out", x.kept(0, 0) > 700, true);
            for (int i = 0; i < 20; i++) {
                x.undo();
            }
            for (int k = 0; k < 50; k++) {
                e.due("kept " + k, x.kept(k, 0) * 100 + x.kept(k, 1), k * 100 + k % 10);
            }
        });
        e.edge("a WISH behind an undone one is KEPT in its place", () -> {
            WishSea x = Checks.with(A + "wish w words 0 gives a;wish v words 0 gives a;");
            x.say(0);
            x.undo();
            x.say(1);
            e.due("told", x.has(11), 1);
            e.due("WISH", x.kept(0, 1), 1);
        });
        e.says("false, refused (4), when none can be.");
        e.edge("of a new object", () -> refusedUndo(new WishSea(), 0));
        e.edge("of a new SHORE", () -> {
            WishSea x = new WishSea();
            x.night();
            x.shore();
            refusedUndo(x, 0);
        });
        e.edge("behind an image", () -> refusedUndo(Shores.at("", 5, 0, 0, 0), 5));
        e.edge("twice for one ACT", () -> {
            WishSea x = new WishSea();
            x.night();
            x.undo();
            refusedUndo(x, 0);
        });
        e.edge("a 21st time", () -> {
            WishSea x = new WishSea();
            for (int i = 0; i < 30; i++) {
                x.night();
            }
            for (int i = 0; i < 20; i++) {
                x.undo();
            }
            refusedUndo(x, 10);
        });
    }

    private void asItWas(WishSea x, int things, int sea, int said, int day) {
        e.due("had", x.has(2), things);
        e.due("sea", x.has(4), sea);
        e.due("said", x.has(5), said);
        e.due("DAY", x.has(6), day);
        e.due("KEPT", x.has(11), 0);
        e.due("ACTS", x.has(12), 0);
    }

    private void refusedUndo(WishSea x, int day) {
        e.due("undo", x.undo(), false);
        e.due("status(4)", x.status(4), 1);
        e.due("DAY", x.has(6), day);
    }

    private void seeding() {
        e.promise(14, "boolean seed(int seed)");
        e.says("The seed: true;");
        e.edge("0", () -> fineSeed(0));
        e.edge("1", () -> fineSeed(1));
        e.edge("the greatest number", () -> fineSeed(Shores.MAX));
        e.says("false, refused (5), when it is below 0.");
        e.edge("-1", () -> refusedSeed(-1));
        e.edge("the least number", () -> refusedSeed(Shores.MIN));
        e.edge("the least number but one", () -> refusedSeed(Shores.MIN + 1));
    }

    private void fineSeed(int seed) {
        WishSea x = new WishSea();
        x.seed(7);
        e.due("seed", x.seed(seed), true);
        e.due("has(13)", x.has(13), seed);
        e.due("status(5)", x.status(5), 0);
    }

    private void refusedSeed(int seed) {
        WishSea x = new WishSea();
        x.seed(7);
        e.due("seed", x.seed(seed), false);
        e.due("has(13)", x.has(13), 7);
        e.due("status(5)", x.status(5), 1);
    }

    private void tellingKept() {
        e.promise(15, "int kept(int k, int what)");
        e.says("Of the k-th WISH that is told as KEPT, from the oldest on: 0 DAY, 1 WISH, 2 the sea, 3 whether it was ONE TOO MANY.");
        e.edge("k 0 of one", () -> e.due("kept", saidDaily(1).kept(0, 0), 0));
        e.edge("k 0 of fifty", () -> e.due("kept", saidDaily(50).kept(0, 0), 0));
        e.edge("k 49 of fifty", () -> e.due("kept", saidDaily(50).kept(49, 0), 49));
        e.edge("k 0 of fifty-one", () -> e.due("kept", saidDaily(51).kept(0, 0), 1));
        e.edge("k 49 of fifty-one", () -> e.due("kept", saidDaily(51).kept(49, 0), 50));
        e.edge("k 49 of 200", () -> e.due("kept", saidDaily(200).kept(49, 2), 199));
        e.edge("the most of each what", () -> {
            WishSea x = Shores.at(A + Shores.wishes(12, 1) + "dark 99;bears 999;", 9999, 0, 901, 0);
            x.say(11);
            e.due("DAY", x.kept(0, 0), 9999);
            e.due("WISH", x.kept(0, 1), 11);
            e.due("sea", x.kept(0, 2), 0);
            e.due("ONE TOO MANY", x.kept(0, 3), 1);
        });
        e.says("NONE when there is none such, or for others.");
        e.edge("k 0 of none", () -> e.due("kept", saidDaily(0).kept(0, 0), -1));
        e.edge("k 1 of one", () -> e.due("kept", saidDaily(1).kept(1, 0), -1));
        e.edge("k -1", () -> e.due("kept", saidDaily(1).kept(-1, 0), -1));
        e.edge("k 50 of fifty-one", () -> e.due("kept", saidDaily(51).kept(50, 0), -1));
        e.edge("what -1", () -> e.due("kept", saidDaily(1).kept(0, -1), -1));
        e.edge("what 4", () -> e.due("kept", saidDaily(1).kept(0, 4), -1));
        e.edge("k 0 of one that was undone", () -> {
            WishSea x = Checks.with(A + W);
            x.say(0);
            x.undo();
            e.due("kept", x.kept(0, 0), -1);
        });
        e.edge("far ones", () -> {
            WishSea x = saidDaily(51);
            for (int far : Shores.FAR) {
                e.due("k " + far, x.kept(far, 0), -1);
                e.due("what " + far, x.kept(0, far), -1);
            }
        });
    }
}
