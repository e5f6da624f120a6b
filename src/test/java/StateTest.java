/** Promises 6, 8 and 9: what there is, THINGS and WISHES; and the reckoning of SUMS and TESTS. */
public final class StateTest {
    private static final Checks C = new Checks();
    private static final String THINGS = "thing hut worth 10 rhymes 2;thing pot worth 3 rhymes 9 brief;thing ox worth 50 rhymes 1;";

    public static void main(String[] args) {
        sums();
        tests();
        partsOfSums();
        hasAndThings();
        wishes();
        C.end();
    }

    private static int room(String sum) {
        return Checks.with("room " + sum + ";").has(7);
    }

    private static void sums() {
        C.says("ROOM: the SUM of room, 0 .. 99 (below is 0, above 99; 99 without).");
        C.due("room 0", room("0"), 0);
        C.due("room 99", room("99"), 99);
        C.due("room 100", room("100"), 99);
        C.due("room below", room("1-2"), 0);
        C.says("All from the left on;");
        C.due("left on", room("90-20-30"), 40);
        C.says("SUM: PRODUCT { + or - PRODUCT }. PRODUCT: PART { * or / or % PART }.");
        C.due("products ahead", room("1+2*3"), 7);
        C.says("All from the left on;");
        C.due("left on, products", room("80/4/2*3"), 30);
        C.due("left on, rests", room("50%9*2"), 10);
        C.says("( SUM ) ;");
        C.due("round brackets", room("80-(20-30)"), 90);
        C.says("/ gives the greatest whole number not above, % what is left (a less b times that);");
        C.due("floor", room("50+(0-7)/2"), 46);
        C.due("floor exact", room("50+(0-8)/2"), 46);
        C.due("floor by below", room("50+7/(0-2)"), 46);
        C.due("rest above", room("7%3"), 1);
        C.due("rest of below", room("(0-7)%3"), 2);
        C.due("rest by below", room("50+7%(0-3)"), 48);
        C.due("rest both below", room("50+(0-7)%(0-3)"), 49);
        C.says("by 0 both give 0;");
        C.due("by 0", room("50+7/0"), 50);
        C.due("rest by 0", room("50+7%0"), 50);
        C.says("each result above 10 to the 6 is that, below -10 to the 6 likewise.");
        C.due("kept at 10 to the 6", room("9999*9999/1000-990"), 10);
        C.due("kept at 10 to the 6, negative", room("(0-9999)*9999/1000+1010"), 10);
        C.due("kept at each result", room("9999*9999-9999*9999+5"), 5);
        C.due("kept by a sum", room("(9999*100+9999)/1000-990"), 10);
        C.says("min ( SUM , SUM ) ; max ( SUM , SUM ) .");
        C.due("min", room("min(3+4,9)"), 7);
        C.due("max", room("max(3+4,9)"), 9);
        C.due("min and max", room("max(min(5,6),min(3,4))*2"), 10);
    }

    private static int content(String test) {
        return Checks.with(THINGS + "first hut;first ox;content " + test + ";").has(8);
    }

    private static void tests() {
        C.says("SUM SIGN SUM, SIGN < or > or = .");
        C.due("less", content("1<2"), 1);
        C.due("not less", content("2<2"), 0);
        C.due("more", content("3>2"), 1);
        C.due("not more", content("2>2"), 0);
        C.due("same", content("2=2"), 1);
        C.due("not same", content("2=3"), 0);
        C.says("TEST: BOTH { or BOTH }. BOTH: FACT { and FACT }. FACT: not FACT; [ TEST ] ; all; SUM SIGN SUM,");
        C.due("and ahead of or", content("1=1 or 1=2 and 1=2"), 1);
        C.due("edges", content("[1=1 or 1=2] and 1=2"), 0);
        C.due("not of the next FACT alone", content("not 1=2 and 1=2"), 0);
        C.due("not of all in edges", content("not [1=2 and 1=2]"), 1);
        C.due("not not", content("not not 1=1"), 1);
        C.due("not what is so", content("not 1=1"), 0);
        C.due("not what is not so", content("not 1=2"), 1);
        C.due("not of edges", content("not [1=1 or 1=2]"), 0);
        C.due("not not not", content("1=1 and not not not 1=1"), 0);
        C.due("not behind or", content("1=2 or not 2=2"), 0);
        C.due("or of both", content("1=1 or 1=1"), 1);
        C.due("and of both", content("1=1 and 1=1"), 1);
        C.says("FACT: not FACT; [ TEST ] ; all;");
        C.due("not all", content("all"), 0);
        C.says("(The worth of all THINGS that one has together, how many these are, how dark the sea is, how many WISHES "
                + "were said this DAY, the DAY;");
        C.due("worth", content("worth=60"), 1);
        C.due("had", content("had=2"), 1);
        C.says("in dark: words of the WISH, the rhyme of what it gives, else 0 both.)");
        C.due("words outside of dark", content("words=0"), 1);
        C.due("rhymes outside of dark", content("rhymes=0"), 1);
        C.says("FACT: not FACT; [ TEST ] ; all;");
        C.due("all", Checks.with(THINGS + "first hut;first ox;first pot;content all;").has(8), 1);
        C.due("all of what is told later, too", Checks.with("content all;" + THINGS).has(8), 0);
        C.due("all of none", Checks.with("content all;").has(8), 1);
        C.says("CONTENT is one, if the TEST of content holds (never without).");
        C.due("never", Checks.with(THINGS).has(8), 0);
    }

    private static void partsOfSums() {
        C.says("(The worth of all THINGS that one has together, how many these are, how dark the sea is, how many WISHES "
                + "were said this DAY, the DAY; in dark: words of the WISH, the rhyme of what it gives, else 0 both.)");
        WishSea x = Checks.with(THINGS + "wish a words 4 gives hut;wish b words 6 gives pot;first ox;dark words*10+rhymes;"
                + "room day*10+said*20+sea/10+had;bears 999;");
        C.due("room at first", x.has(7), 1);
        C.due("dark of a", x.wish(0, 6), 42);
        C.due("dark of b", x.wish(1, 6), 69);
        x.night();
        C.due("room in DAY 1", x.has(7), 11);
        C.due("say a", x.say(0), 42);
        C.due("room behind a", x.has(7), 10 + 20 + 4 + 2);
        C.due("say b", x.say(1), 42 + 69);
        C.due("room behind b", x.has(7), 10 + 40 + 11 + 3);
        C.says("the sea is darker by the SUM of dark, 0 .. 99 (0 without; as all is ahead of it);");
        C.due("dark is 99 at most", Checks.with("thing a worth 1 rhymes 1;wish w words 1 gives a;dark 100;").wish(0, 6), 99);
        C.due("dark is 0 at least", Checks.with("thing a worth 1 rhymes 1;wish w words 1 gives a;dark 0-1;").wish(0, 6), 0);
        C.due("no dark", Checks.with("thing a worth 1 rhymes 1;wish w words 1 gives a;").wish(0, 6), 0);
    }

    private static void hasAndThings() {
        WishSea x = Checks.with(THINGS + "wish a words 1 gives hut;wish b words 2 gives hut;wish c words 0 gives pot uses ox;"
                + "first ox;first hut;dark 7;calm 1;calm 3;bears 5;bears 66;room 20-sea;content worth=13;");
        C.says("How many there are: 0 THINGS, 1 WISHES, 2 THINGS had, as bits, 3 their worth, 4 the sea, 5 WISHES said "
                + "this DAY, 6 DAY, 7 ROOM, 8 whether one is CONTENT (1, 0), 9 bears, 10 calm, 11 WISHES that are told as "
                + "KEPT, 12 ACTS that can be undone, 13 the seed. NONE for others.");
        int[] first = {3, 3, 5, 60, 0, 0, 0, 20, 0, 66, 3, 0, 0, 1};
        for (int what = 0; what < first.length; what++) {
            C.due("has " + what, x.has(what), first[what]);
        }
        C.due("has 14", x.has(14), -1);
        C.due("has -1", x.has(-1), -1);
        x.seed(2147483647);
        C.due("say c", x.say(2), 7);
        int[] then = {3, 3, 3, 13, 7, 1, 0, 13, 1, 66, 3, 1, 1, 2147483647};
        for (int what = 0; what < then.length; what++) {
            C.due("has then " + what, x.has(what), then[what]);
        }
        C.says("Of a THING: 0 worth, 1 rhyme, 2 whether brief, 3 whether one has it, 4 whether it was had at first, 5 how "
                + "many WISHES give it. NONE when there is none such, or for others.");
        int[][] things = {{10, 2, 0, 1, 1, 2}, {3, 9, 1, 1, 0, 1}, {50, 1, 0, 0, 1, 0}};
        for (int thing = 0; thing < 3; thing++) {
            for (int what = 0; what < 6; what++) {
                C.due("thing " + thing + " " + what, x.thing(thing, what), things[thing][what]);
            }
        }
        C.due("thing 3", x.thing(3, 0), -1);
        C.due("thing -1", x.thing(-1, 0), -1);
        C.due("thing what 6", x.thing(0, 6), -1);
        C.due("thing what -1", x.thing(0, -1), -1);
    }

    private static void wishes() {
        WishSea x = Checks.with(THINGS + "wish a words 1 gives pot needs ox hut uses hut ox;wish b words 2 gives pot uses ox;"
                + "wish c words 3 gives hut;wish d words 3 gives pot;wish e words 2 gives pot;first hut;room 11;dark 5;content said=1;");
        C.says("Of a WISH: 0 what it gives, 1 needs as bits, 2 uses as bits, 3 words, 4 words and rhyme together, 5 why "
                + "it may not be said (0 when it MAY), 6 by how much it would darken the sea now, 7 how often it is told "
                + "as KEPT. NONE when there is none such, or for others.");
        int[] a = {1, 5, 5, 1, 10, 1, 5, 0};
        int[] b = {1, 0, 4, 2, 11, 2, 5, 0};
        for (int what = 0; what < 8; what++) {
            C.due("wish 0 " + what, x.wish(0, what), a[what]);
            C.due("wish 1 " + what, x.wish(1, what), b[what]);
        }
        C.due("has it", x.wish(2, 5), 3);
        C.due("too long", x.wish(3, 5), 4);
        C.due("MAY", x.wish(4, 5), 0);
        C.due("wish 5", x.wish(5, 0), -1);
        C.due("wish -1", x.wish(-1, 0), -1);
        C.due("wish what 8", x.wish(0, 8), -1);
        C.due("wish what -1", x.wish(0, -1), -1);
        C.says("A WISH MAY be said, if (in this order; the first that is not so tells why): one has all that it needs (1) "
                + "and all that it uses up (2), has not what it gives (3), its words and the rhyme of what it gives "
                + "together are not above ROOM (4), one is not CONTENT (5).");
        x.say(4);
        // Content now: but what is not so ahead of that tells why.
        C.due("needs ahead of content", x.wish(0, 5), 1);
        C.due("uses ahead of content", x.wish(1, 5), 2);
        C.due("has it ahead of content", x.wish(4, 5), 3);
        C.says("7 how often it is told as KEPT.");
        C.due("told as KEPT", x.wish(4, 7), 1);
        C.due("not told as KEPT", x.wish(3, 7), 0);
        x.night();
        C.says("the first that is not so tells why");
        C.due("room ahead of content", x.wish(3, 5), 4);
        C.says("7 how often it is told as KEPT.");
        x.say(4);
        C.due("told as KEPT twice", x.wish(4, 7), 2);
        C.says("one is not CONTENT (5).");
        WishSea y = Checks.with(THINGS + "wish a words 1 gives hut;content all or day=0;");
        C.due("content", y.wish(0, 5), 5);
        C.due("say when content", y.say(0), -1);
        y.night();
        C.due("no more", y.wish(0, 5), 0);
    }
}
