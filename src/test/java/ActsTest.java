/** Promises 10 to 15: say, night, days, undo, seed, kept. */
public final class ActsTest {
    private static final Checks C = new Checks();
    private static final String TEXT = "thing a worth 1 rhymes 1;thing b worth 2 rhymes 1 brief;thing c worth 4 rhymes 1;"
            + "wish wa words 0 gives a uses b;wish wb words 0 gives b;wish wc words 0 gives c;dark 30;calm 5;";

    public static void main(String[] args) {
        saying();
        oneTooMany();
        nights();
        daysBySeed();
        daysThatCanNotBe();
        undoing();
        undoingKept();
        seeds();
        keeping();
        C.end();
    }

    private static void has(String when, WishSea x, int things, int sea, int said, int day) {
        C.due(when + ": things", x.has(2), things);
        C.due(when + ": sea", x.has(4), sea);
        C.due(when + ": said", x.has(5), said);
        C.due(when + ": day", x.has(6), day);
    }

    private static void saying() {
        C.says("A WISH is said: the sea then (0 when it was ONE TOO MANY); NONE, refused (2), when it MAY not be, or "
                + "there is none such.");
        WishSea x = Checks.with(TEXT);
        C.due("uses none", x.say(0), -1);
        C.due("none such", x.say(3), -1);
        C.due("none such", x.say(-1), -1);
        C.due("status(2)", x.status(2), 3);
        has("refused", x, 0, 0, 0, 0);
        C.due("say 1", x.say(1), 30);
        has("b", x, 2, 30, 1, 0);
        C.due("has it", x.say(1), -1);
        C.due("say 0", x.say(0), 60);
        has("a", x, 1, 60, 2, 0);
        C.due("say 2", x.say(2), 90);
        has("c", x, 5, 90, 3, 0);
        // Darkness is reckoned as all is ahead of the WISH: what it gives and uses doesn't count yet.
        C.says("the sea is darker by the SUM of dark, 0 .. 99 (0 without; as all is ahead of it); what it uses up is "
                + "gone, what it gives one has; one more is said.");
        WishSea y = Checks.with("thing a worth 9 rhymes 3;thing b worth 5 rhymes 1;first b;wish w words 2 gives a uses b;"
                + "dark worth+had*10+said*50;");
        C.due("dark ahead", y.say(0), 15);
        C.due("worth behind", y.has(3), 9);
        C.says("A WISH MAY be said, if (in this order; the first that is not so tells why):");
        WishSea z = Checks.with("thing a worth 9 rhymes 3;wish w words 2 gives a needs a;wish v words 6 gives a;room 8;");
        C.due("needs what it gives", z.wish(0, 5), 1);
        C.due("too long", z.say(1), -1);
    }

    private static void oneTooMany() {
        C.says("If the sea is then above what the fish bears, it is ONE TOO MANY: all is as at first, but the DAY; the "
                + "sea is 0, none was said.");
        WishSea x = Checks.with(TEXT + "bears 60;first c;");
        x.night();
        x.say(1);
        C.due("bears just so much", x.say(0), 60);
        has("60", x, 5, 60, 2, 1);
        C.due("one too many", x.say(1), 0);
        has("all as at first but the DAY", x, 4, 0, 0, 1);
        C.says("KEPT is each WISH said: DAY, WISH, the sea behind it (0 of one that was ONE TOO MANY), 1 if it was that, "
                + "else 0 (the last 50 are told).");
        C.due("kept", x.has(11), 3);
        C.due("kept sea", x.kept(2, 2), 0);
        C.due("kept flag", x.kept(2, 3), 1);
        C.due("kept flag", x.kept(1, 3), 0);
        C.says("The latest ACT is undone: all that ACTS change is as it was ahead of it");
        C.due("undo", x.undo(), true);
        has("undone", x, 5, 60, 2, 1);
    }

    private static void nights() {
        C.says("A DAY ends: brief THINGS are gone, the sea is lighter by calm (0 at least), none was said, DAY is one "
                + "more (9999 at most).");
        WishSea x = Checks.with(TEXT);
        x.say(1);
        x.say(2);
        C.due("night", x.night(), 1);
        has("brief is gone", x, 4, 55, 0, 1);
        for (int day = 2; day < 15; day++) {
            C.due("night", x.night(), day);
        }
        has("sea 0 at least", x, 4, 0, 0, 14);
        WishSea y = Checks.with("thing a worth 1 rhymes 1 brief;first a;");
        C.due("brief at first", y.has(2), 1);
        y.night();
        C.due("gone then", y.has(2), 0);
        C.says("A DAY ends: the DAY then; NONE, refused (3), in DAY 9999.");
        // 9998 by an image: 39, 14.
        C.due("image", Checks.on(y, ImageTest.bytes(9998, 0, 0, 0)), true);
        C.due("last night", y.night(), 9999);
        C.due("no more", y.night(), -1);
        C.due("status(3)", y.status(3), 1);
        C.due("day stays", y.has(6), 9999);
    }

    private static void daysBySeed() {
        C.says("A DAY by the seed: so often as a DRAW of 4 tells: one of the WISHES that MAY be said, by a DRAW of as "
                + "many as these are, by numbers (none, no DRAW, when there are none); then the DAY ends.");
        WishSea x = Checks.with(TEXT);
        C.due("days 6", x.days(6), 5);
        has("days 6", x, 4, 20, 0, 6);
        C.says("A DRAW of m: x (the seed) becomes (1103515245 x + 12345) mod 2 to the 31; floor(x / 64) mod m.");
        C.due("seed", x.has(13), 180171308);
        C.says("KEPT is each WISH said: DAY, WISH, the sea behind it (0 of one that was ONE TOO MANY), 1 if it was that, "
                + "else 0");
        int[][] kept = {{0, 2, 30, 0}, {0, 1, 60, 0}, {3, 1, 75, 0}, {3, 0, 0, 1}, {4, 2, 30, 0}};
        C.due("kept", x.has(11), 5);
        for (int k = 0; k < 5; k++) {
            for (int what = 0; what < 4; what++) {
                C.due("kept " + k + " " + what, x.kept(k, what), kept[k][what]);
            }
        }
        C.says("n DAYS (1 .. 40) by the seed, one ACT: how many WISHES were said;");
        C.due("one ACT", x.has(12), 1);
        C.says("The latest ACT is undone: all that ACTS change is as it was ahead of it (but the seed): true;");
        C.due("undo", x.undo(), true);
        has("undone", x, 0, 0, 0, 0);
        C.due("nothing kept", x.has(11), 0);
        C.due("the seed is not undone", x.has(13), 180171308);
        C.says("(none, no DRAW, when there are none);");
        WishSea y = new WishSea();
        y.seed(5);
        C.due("none can be said", y.days(3), 0);
        C.due("so no DRAW for it", y.has(13), 695785320);
    }

    private static void daysThatCanNotBe() {
        C.says("n DAYS (1 .. 40) by the seed, one ACT: how many WISHES were said; NONE, refused (3), when n can't be, or "
                + "beyond 9999.");
        WishSea x = Checks.with(TEXT);
        C.due("days 0", x.days(0), -1);
        C.due("days -1", x.days(-1), -1);
        C.due("days 41", x.days(41), -1);
        C.due("days least", x.days(-2147483648), -1);
        C.due("days greatest", x.days(2147483647), -1);
        C.due("status(3)", x.status(3), 5);
        C.due("seed stays", x.has(13), 1);
        C.due("no ACT", x.has(12), 0);
        C.due("image", Checks.on(x, ImageTest.bytes(9960, 0, 0, 0)), true);
        C.due("beyond", x.days(40), -1);
        C.due("up to it", x.days(39) >= 0, true);
        C.due("DAY", x.has(6), 9999);
        C.due("beyond", x.days(1), -1);
        C.due("image", Checks.on(x, ImageTest.bytes(9998, 0, 0, 0)), true);
        C.due("one DAY", x.days(1) >= 0, true);
        C.due("DAY", x.has(6), 9999);
        WishSea y = Checks.with("");
        C.due("days 40", y.days(40), 0);
        C.due("DAY 40", y.has(6), 40);
    }

    private static void undoing() {
        C.says("The latest ACT is undone: all that ACTS change is as it was ahead of it (but the seed): true; false, "
                + "refused (4), when none can be.");
        WishSea x = Checks.with(TEXT);
        C.due("none", x.undo(), false);
        C.due("status(4)", x.status(4), 1);
        x.say(0);
        C.due("a refused one is no ACT", x.has(12), 0);
        C.says("The last 20 ACTS can be undone.");
        for (int i = 0; i < 19; i++) {
            x.night();
        }
        x.say(1);
        x.say(2);
        C.due("20 at most", x.has(12), 20);
        C.due("DAY", x.has(6), 19);
        C.due("undo", x.undo(), true);
        has("undone", x, 2, 30, 1, 19);
        C.due("kept", x.has(11), 1);
        C.due("19 more", x.has(12), 19);
        for (int i = 0; i < 19; i++) {
            C.due("undo " + i, x.undo(), true);
        }
        C.due("DAY of the oldest", x.has(6), 1);
        C.due("no more", x.undo(), false);
        C.due("status(4)", x.status(4), 2);
        C.due("kept none", x.has(11), 0);
        C.says("ACTS: a WISH is said; a DAY ends; DAYS by the seed.");
        // Rows, seeds, falls and images are no ACTS.
        x.seed(4);
        Checks.row(x, 1);
        Checks.falls(x, 0, 3, 0);
        x.image();
        C.due("no ACTS", x.has(12), 0);
    }

    private static void undoingKept() {
        // 120 WISHES are KEPT in 40 DAYS at most: what dropped out of the last 50 comes back.
        C.says("all that ACTS change is as it was ahead of it (but the seed)");
        WishSea x = Checks.with("thing a worth 1 rhymes 1 brief;thing b worth 1 rhymes 1 brief;thing c worth 1 rhymes 1 brief;"
                + "wish wa words 0 gives a;wish wb words 0 gives b;wish wc words 0 gives c;");
        x.say(2);
        x.night();
        for (int day = 1; day < 30; day++) {
            x.say(day % 2);
            x.night();
        }
        x.say(1);
        x.say(0);
        C.due("kept", x.has(11), 32);
        for (int i = 0; i < 20; i++) {
            x.days(40);
        }
        C.due("kept 50", x.has(11), 50);
        C.due("from long ago", x.kept(0, 0) > 700, true);
        C.due("times", x.wish(0, 7) + x.wish(1, 7) + x.wish(2, 7), 50);
        for (int i = 0; i < 20; i++) {
            C.due("undo", x.undo(), true);
        }
        C.due("kept", x.has(11), 32);
        C.due("oldest wish", x.kept(0, 1), 2);
        C.due("oldest day", x.kept(0, 0), 0);
        C.due("second", x.kept(1, 1), 1);
        C.due("latest", x.kept(31, 1), 0);
        C.due("times 0", x.wish(0, 7), 15);
        C.due("times 1", x.wish(1, 7), 16);
        C.due("times 2", x.wish(2, 7), 1);
        C.due("DAY", x.has(6), 30);
        C.due("no more", x.undo(), false);
    }

    private static void seeds() {
        C.says("The seed: true; false, refused (5), when it is below 0.");
        WishSea x = new WishSea();
        C.due("seed 0", x.seed(0), true);
        C.due("seed 0", x.has(13), 0);
        C.due("seed greatest", x.seed(2147483647), true);
        C.due("seed -1", x.seed(-1), false);
        C.due("seed least", x.seed(-2147483648), false);
        C.due("seed stays", x.has(13), 2147483647);
        C.due("status(5)", x.status(5), 2);
    }

    private static void keeping() {
        C.says("(the last 50 are told)");
        WishSea x = Checks.with("thing a worth 1 rhymes 1 brief;wish w words 0 gives a;dark day%7;bears 5;calm 2;");
        for (int day = 0; day < 53; day++) {
            x.say(0);
            x.night();
        }
        C.due("50 at most", x.has(11), 50);
        C.due("times", x.wish(0, 7), 50);
        C.due("oldest DAY", x.kept(0, 0), 3);
        C.due("latest DAY", x.kept(49, 0), 52);
        C.says("Of the k-th WISH that is told as KEPT, from the oldest on: 0 DAY, 1 WISH, 2 the sea, 3 whether it was ONE "
                + "TOO MANY. NONE when there is none such, or for others.");
        int sea = 0;
        for (int day = 0; day < 53; day++) {
            sea += day % 7;
            int flag = sea > 5 ? 1 : 0;
            sea = sea > 5 ? 0 : sea;
            if (day >= 3) {
                C.due("kept wish " + day, x.kept(day - 3, 1), 0);
                C.due("kept sea " + day, x.kept(day - 3, 2), sea);
                C.due("kept flag " + day, x.kept(day - 3, 3), flag);
            }
            sea = Math.max(0, sea - 2);
        }
        C.due("kept 50", x.kept(50, 0), -1);
        C.due("kept -1", x.kept(-1, 0), -1);
        C.due("kept what 4", x.kept(0, 4), -1);
        C.due("kept what -1", x.kept(0, -1), -1);
        C.due("none kept", new WishSea().kept(0, 0), -1);
        WishSea y = Checks.with("thing a worth 1 rhymes 1;" + "wish w words 0 gives a;dark 99;bears 999;");
        Checks.on(y, ImageTest.bytes(9999, 0, 900, 0));
        y.say(0);
        C.due("great DAY", y.kept(0, 0), 9999);
        C.due("great sea", y.kept(0, 2), 999);
    }
}
