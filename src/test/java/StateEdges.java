/** The boundary cases of what there is and of what MAY be said: the first half of part II, and promises 6, 8 and 9. */
final class StateEdges {
    private static final String A = "thing a worth 1 rhymes 1;";
    private static final String B = "thing b worth 1 rhymes 1;";
    private static final String ABC = "thing a worth 1 rhymes 2;thing b worth 2 rhymes 2;thing c worth 4 rhymes 2;";

    private final Edges e;

    private StateEdges(Edges e) {
        this.e = e;
    }

    static void run(Edges e) {
        StateEdges edges = new StateEdges(e);
        e.under("## Terms", "## Promise 1:");
        edges.atFirst();
        edges.room();
        edges.content();
        edges.mayBeSaid();
        edges.order();
        edges.isSaid();
        edges.oneTooMany();
        edges.howMany();
        edges.ofAThing();
        edges.ofAWish();
    }

    private void atFirst() {
        e.says("II. At first one has what is told by first, the sea is 0, DAY 0.");
        e.edge("nothing is told", () -> e.due("had", Checks.with(A + B).has(2), 0));
        e.edge("all is told", () -> e.due("had", Checks.with(Shores.things(10) + Shores.firsts(10)).has(2), 1023));
        e.edge("brief ones, too", () -> e.due("had", Checks.with(Shores.things(2, " brief") + "first b;").has(2), 2));
        e.edge("the sea", () -> e.due("sea", Checks.with("dark 9;calm 9;").has(4), 0));
        e.edge("the DAY", () -> e.due("DAY", Checks.with("dark 9;calm 9;").has(6), 0));
        e.edge("content at first", () -> e.due("content", Checks.with("content day=0 and sea=0 and said=0;").has(8), 1));
    }

    private void room() {
        e.says("ROOM: the SUM of room, 0 .. 99 (below is 0, above 99; 99 without).");
        e.edge("-1", () -> e.due("room", Shores.room("0-1"), 0));
        e.edge("0", () -> e.due("room", Shores.room("0"), 0));
        e.edge("1", () -> e.due("room", Shores.room("1"), 1));
        e.edge("98", () -> e.due("room", Shores.room("98"), 98));
        e.edge("99", () -> e.due("room", Shores.room("99"), 99));
        e.edge("100", () -> e.due("room", Shores.room("100"), 99));
        e.edge("far below", () -> e.due("room", Shores.room("0-9999*9999"), 0));
        e.edge("far above", () -> e.due("room", Shores.room("9999*9999"), 99));
        e.edge("without", () -> e.due("room", Checks.with("dark 5;").has(7), 99));
        e.edge("without THINGS", () -> e.due("room", new WishSea().has(7), 99));
        e.edge("it changes with the sea", () -> {
            WishSea x = Checks.with(A + "wish w words 0 gives a;dark 5;room 3-sea;");
            e.due("room", x.has(7), 3);
            x.say(0);
            e.due("room then", x.has(7), 0);
        });
    }

    private void content() {
        e.says("CONTENT is one, if the TEST of content holds (never without).");
        e.edge("it holds", () -> e.due("content", Checks.with("content 1=1;").has(8), 1));
        e.edge("it doesn't hold", () -> e.due("content", Checks.with("content 1=2;").has(8), 0));
        e.edge("without", () -> e.due("content", Checks.with(A + "first a;").has(8), 0));
        e.edge("without, of a new object", () -> e.due("content", new WishSea().has(8), 0));
        e.edge("without, behind a SHORE with one", () -> {
            WishSea x = Checks.with("content 1=1;");
            Checks.shore(x, A);
            e.due("content", x.has(8), 0);
        });
        e.edge("no more", () -> {
            WishSea x = Checks.with("content day=0;");
            x.night();
            e.due("content", x.has(8), 0);
        });
    }

    private int why(String text) {
        return Checks.with(text).wish(0, 5);
    }

    private void mayBeSaid() {
        e.says("A WISH MAY be said, if (in this order; the first that is not so tells why): one has all that it needs (1) and all "
                + "that it uses up (2), has not what it gives (3), its words and the rhyme of what it gives together are not above "
                + "ROOM (4), one is not CONTENT (5).");
        String needs = ABC + "wish w words 0 gives a needs b c;";
        e.edge("needs none", () -> e.due("why", why(ABC + "wish w words 0 gives a;"), 0));
        e.edge("needs two, has none", () -> e.due("why", why(needs), 1));
        e.edge("needs two, has the first one", () -> e.due("why", why(needs + "first b;"), 1));
        e.edge("needs two, has the second one", () -> e.due("why", why(needs + "first c;"), 1));
        e.edge("needs two, has both", () -> e.due("why", why(needs + "first b;first c;"), 0));
        e.edge("needs what it gives, has it not", () -> e.due("why", why(ABC + "wish w words 0 gives a needs a;"), 1));
        e.edge("needs what it gives, has it", () -> e.due("why", why(ABC + "wish w words 0 gives a needs a;first a;"), 3));
        e.edge("needs all ten, has nine", () -> e.due("why", why(Shores.things(10) + Shores.firsts(9)
                + "wish w words 0 gives a needs" + Shores.names(0, 10) + ";"), 1));
        String uses = ABC + "wish w words 0 gives a uses b c;";
        e.edge("uses two, has none", () -> e.due("why", why(uses), 2));
        e.edge("uses two, has the first one", () -> e.due("why", why(uses + "first b;"), 2));
        e.edge("uses two, has the second one", () -> e.due("why", why(uses + "first c;"), 2));
        e.edge("uses two, has both", () -> e.due("why", why(uses + "first b;first c;"), 0));
        e.edge("uses nine, has nine", () -> e.due("why", why(Shores.things(10) + Shores.firsts(10).substring(8)
                + "wish w words 0 gives a uses" + Shores.names(1, 10) + ";"), 0));
        e.edge("has it", () -> e.due("why", why(ABC + "wish w words 0 gives a;first a;"), 3));
        e.edge("has all others", () -> e.due("why", why(ABC + "wish w words 0 gives a;first b;first c;"), 0));
        e.edge("as long as ROOM", () -> e.due("why", why(ABC + "wish w words 3 gives a;room 5;"), 0));
        e.edge("one longer than ROOM", () -> e.due("why", why(ABC + "wish w words 4 gives a;room 5;"), 4));
        e.edge("one shorter than ROOM", () -> e.due("why", why(ABC + "wish w words 2 gives a;room 5;"), 0));
        e.edge("the shortest, ROOM 1", () -> e.due("why", why(A + "wish w words 0 gives a;room 1;"), 0));
        e.edge("the shortest, ROOM 0", () -> e.due("why", why(A + "wish w words 0 gives a;room 0;"), 4));
        e.edge("the longest, ROOM 18", () -> e.due("why", why("thing a worth 1 rhymes 9;wish w words 9 gives a;room 18;"), 0));
        e.edge("the longest, ROOM 17", () -> e.due("why", why("thing a worth 1 rhymes 9;wish w words 9 gives a;room 17;"), 4));
        e.edge("the longest, without room", () -> e.due("why", why("thing a worth 1 rhymes 9;wish w words 9 gives a;"), 0));
        e.edge("content", () -> e.due("why", why(ABC + "wish w words 0 gives a;content had=0;"), 5));
        e.edge("not content", () -> e.due("why", why(ABC + "wish w words 0 gives a;content had>0;"), 0));
        e.edge("MAY, though it would be ONE TOO MANY", () -> e.due("why", why(A + "wish w words 0 gives a;dark 99;bears 1;"), 0));
    }

    /** All that is not so at once, less one more each time. */
    private void order() {
        String last = "room 0;content 1=1;";
        e.edge("all five are not so", () -> e.due("why", why(ABC + "first a;wish w words 9 gives a needs b uses c;" + last), 1));
        e.edge("the last four", () -> e.due("why", why(ABC + "first a;first b;wish w words 9 gives a needs b uses c;" + last), 2));
        e.edge("the last three", () ->
                e.due("why", why(ABC + "first a;first b;first c;wish w words 9 gives a needs b uses c;" + last), 3));
        e.edge("the last two", () -> e.due("why", why(ABC + "first b;first c;wish w words 9 gives a needs b uses c;" + last), 4));
        e.edge("the last one", () ->
                e.due("why", why(ABC + "first b;first c;wish w words 9 gives a needs b uses c;content 1=1;"), 5));
        e.edge("none", () -> e.due("why", why(ABC + "first b;first c;wish w words 9 gives a needs b uses c;"), 0));
        e.edge("1 ahead of 3", () -> e.due("why", why(ABC + "first a;wish w words 0 gives a needs b;"), 1));
        e.edge("1 ahead of 4", () -> e.due("why", why(ABC + "wish w words 0 gives a needs b;room 0;"), 1));
        e.edge("1 ahead of 5", () -> e.due("why", why(ABC + "wish w words 0 gives a needs b;content 1=1;"), 1));
        e.edge("2 ahead of 4", () -> e.due("why", why(ABC + "wish w words 0 gives a uses b;room 0;"), 2));
        e.edge("2 ahead of 5", () -> e.due("why", why(ABC + "wish w words 0 gives a uses b;content 1=1;"), 2));
        e.edge("3 ahead of 5", () -> e.due("why", why(ABC + "first a;wish w words 0 gives a;content 1=1;"), 3));
    }

    private void isSaid() {
        String wish = "wish w words 0 gives a;";
        e.says("It is SAID: the sea is darker by the SUM of dark, 0 .. 99 (0 without; as all is ahead of it);");
        e.edge("-1", () -> e.due("say", Checks.with(A + wish + "dark 0-1;").say(0), 0));
        e.edge("0", () -> e.due("say", Checks.with(A + wish + "dark 0;").say(0), 0));
        e.edge("1", () -> e.due("say", Checks.with(A + wish + "dark 1;").say(0), 1));
        e.edge("98", () -> e.due("say", Checks.with(A + wish + "dark 98;").say(0), 98));
        e.edge("99", () -> e.due("say", Checks.with(A + wish + "dark 99;").say(0), 99));
        e.edge("100", () -> e.due("say", Checks.with(A + wish + "dark 100;").say(0), 99));
        e.edge("far above", () -> e.due("say", Checks.with(A + wish + "dark 9999*9999;").say(0), 99));
        e.edge("far below", () -> e.due("say", Shores.at(A + wish + "dark 0-9999*9999;", 0, 0, 7, 0).say(0), 7));
        e.edge("without", () -> e.due("say", Checks.with(A + wish).say(0), 0));
        e.edge("worth and had as ahead of it", () ->
                e.due("say", Checks.with(ABC + "first c;wish w words 0 gives a uses c;dark worth*10+had;").say(0), 41));
        e.edge("sea and said as ahead of it", () ->
                e.due("say", Shores.at(A + wish + "dark sea*10+said;", 0, 3, 2, 0).say(0), 25));
        e.edge("words and rhymes are the WISH's own", () ->
                e.due("say", Checks.with(ABC + "wish v words 9 gives c;wish w words 4 gives a;dark words*10+rhymes;").say(1), 42));
        e.says("what it uses up is gone, what it gives one has; one more is said.");
        e.edge("uses none", () -> e.due("had", said(ABC + "first b;first c;wish w words 0 gives a;", 2), 7));
        e.edge("uses all that one has", () -> e.due("had", said(ABC + "first b;first c;wish w words 0 gives a uses b c;", 2), 1));
        e.edge("what it needs stays", () -> e.due("had", said(ABC + "first b;first c;wish w words 0 gives a needs b uses c;", 2), 3));
        e.edge("what it needs and uses is gone", () ->
                e.due("had", said(ABC + "first b;first c;wish w words 0 gives a needs b c uses c;", 2), 3));
        e.edge("the tenth THING", () -> e.due("had", said(Shores.things(10) + "wish w words 0 gives j;", 2), 512));
        e.edge("the first one said", () -> e.due("said", said(A + wish, 5), 1));
        e.edge("the 10000th one said", () -> {
            WishSea x = Shores.at(A + wish, 0, 9999, 0, 0);
            e.due("say", x.say(0), 0);
            e.due("said", x.has(5), 10000);
        });
    }

    private int said(String text, int what) {
        WishSea x = Checks.with(text);
        x.say(0);
        return x.has(what);
    }

    private void oneTooMany() {
        String text = ABC + "first c;wish w words 0 gives a;wish v words 0 gives b uses c;dark 40;";
        e.says("If the sea is then above what the fish bears, it is ONE TOO MANY:");
        e.edge("one below what it bears", () -> e.due("say", Checks.with(text + "bears 41;").say(0), 40));
        e.edge("just what it bears", () -> e.due("say", Checks.with(text + "bears 40;").say(0), 40));
        e.edge("one above what it bears", () -> {
            WishSea x = Checks.with(text + "bears 39;");
            e.due("say", x.say(0), 0);
            e.due("kept", x.kept(0, 3), 1);
        });
        e.edge("bears 1, dark 1", () -> e.due("say", Checks.with(A + "wish w words 0 gives a;dark 1;bears 1;").say(0), 1));
        e.edge("bears 1, dark 2", () -> e.due("say", Checks.with(A + "wish w words 0 gives a;dark 2;bears 1;").say(0), 0));
        e.edge("bears 100 without", () -> {
            WishSea x = Shores.at(text, 0, 0, 60, 0);
            e.due("100", x.say(0), 100);
            WishSea y = Shores.at(text.replace("dark 40", "dark 41"), 0, 0, 60, 0);
            e.due("101", y.say(0), 0);
        });
        e.edge("bears 999", () -> {
            WishSea x = Shores.at(text + "bears 999;", 0, 0, 959, 0);
            e.due("999", x.say(0), 999);
            WishSea y = Shores.at(text + "bears 999;", 0, 0, 960, 0);
            e.due("1000", y.say(0), 0);
        });
        e.edge("a WISH that isn't dark, in the darkest sea", () ->
                e.due("say", Shores.at(A + "wish w words 0 gives a;bears 7;", 0, 0, 7, 0).say(0), 7));
        e.says("all is as at first, but the DAY; the sea is 0, none was said.");
        e.edge("THINGS, had and not had", () -> {
            WishSea x = Shores.at(text + "bears 50;", 3, 4, 20, 2);
            e.due("say", x.say(0), 0);
            e.due("had", x.has(2), 4);
            e.due("sea", x.has(4), 0);
            e.due("said", x.has(5), 0);
            e.due("DAY", x.has(6), 3);
        });
        e.edge("DAY 9999", () -> {
            WishSea x = Shores.at(text + "bears 39;", 9999, 0, 0, 4);
            e.due("say", x.say(0), 0);
            e.due("DAY", x.has(6), 9999);
        });
        e.edge("brief ones of first are there again", () -> {
            WishSea x = Checks.with(A + "thing b worth 1 rhymes 1 brief;first b;wish w words 0 gives a;dark 99;bears 1;");
            x.night();
            e.due("gone", x.has(2), 0);
            x.say(0);
            e.due("there again", x.has(2), 2);
        });
        e.edge("what is KEPT stays, and ACTS stay", () -> {
            WishSea x = Checks.with(text + "bears 50;");
            x.say(0);
            x.say(1);
            e.due("KEPT", x.has(11), 2);
            e.due("ACTS", x.has(12), 2);
        });
        e.edge("said again at once", () -> {
            WishSea x = Checks.with(text + "bears 39;");
            x.say(0);
            e.due("again", x.say(0), 0);
            e.due("KEPT", x.has(11), 2);
        });
    }

    private void howMany() {
        e.promise(6, "int has(int what)");
        e.says("How many there are: 0 THINGS, 1 WISHES, 2 THINGS had, as bits, 3 their worth, 4 the sea, 5 WISHES said this DAY, "
                + "6 DAY, 7 ROOM, 8 whether one is CONTENT (1, 0), 9 bears, 10 calm, 11 WISHES that are told as KEPT, 12 ACTS that "
                + "can be undone, 13 the seed.");
        String richest = Shores.things(10).replace("worth 1 ", "worth 99 ") + Shores.firsts(10) + Shores.wishes(12, 10)
                + "bears 999;calm 999;content all;";
        int[] most = {10, 12, 1023, 990, 999, 9999, 9999, 99, 1, 999, 999, 0, 0, Shores.MAX};
        int[] least = {0, 0, 0, 0, 0, 0, 0, 0, 0, 1, 0, 0, 0, 0};
        for (int what = 0; what < 14; what++) {
            int asked = what;
            e.edge("the most of " + what, () -> {
                WishSea x = Shores.at(richest, 9999, 9999, 999, 1023);
                x.seed(Shores.MAX);
                e.due("has", x.has(asked), most[asked]);
            });
            e.edge("the least of " + what, () -> {
                WishSea x = Checks.with("room 0;bears 1;");
                x.seed(0);
                e.due("has", x.has(asked), least[asked]);
            });
        }
        e.edge("the most of 11 by ACTS", () -> {
            WishSea x = Checks.with("thing a worth 1 rhymes 1 brief;wish w words 0 gives a;");
            for (int i = 0; i < 51; i++) {
                e.due("KEPT " + i, x.has(11), Math.min(i, 50));
                x.say(0);
                x.night();
            }
            e.due("KEPT", x.has(11), 50);
        });
        e.edge("the most of 12 by ACTS", () -> {
            WishSea x = new WishSea();
            for (int i = 0; i < 22; i++) {
                e.due("ACTS " + i, x.has(12), Math.min(i, 20));
                x.night();
            }
        });
        e.says("NONE for others.");
        e.edge("-1", () -> e.due("has", Checks.with(richest).has(-1), -1));
        e.edge("14", () -> e.due("has", Checks.with(richest).has(14), -1));
        e.edge("far ones", () -> {
            for (int what : Shores.FAR) {
                e.due("has " + what, new WishSea().has(what), -1);
            }
        });
    }

    private void ofAThing() {
        e.promise(8, "int thing(int thing, int what)");
        e.says("Of a THING: 0 worth, 1 rhyme, 2 whether brief, 3 whether one has it, 4 whether it was had at first, 5 how many "
                + "WISHES give it.");
        String text = "thing a worth 0 rhymes 1;" + Shores.things(9).substring(Shores.things(1).length())
                + "thing j worth 99 rhymes 9 brief;first j;";
        int[] first = {0, 1, 0, 0, 0, 0};
        int[] last = {99, 9, 1, 1, 1, 12};
        StringBuilder all = new StringBuilder(text);
        for (int i = 0; i < 12; i++) {
            all.append("wish w").append(Shores.letter(i)).append(" words 0 gives j;");
        }
        for (int what = 0; what < 6; what++) {
            int asked = what;
            e.edge("the least of " + what + ", of the first THING", () ->
                    e.due("thing", Checks.with(all.toString()).thing(0, asked), first[asked]));
            e.edge("the most of " + what + ", of the tenth THING", () ->
                    e.due("thing", Checks.with(all.toString()).thing(9, asked), last[asked]));
        }
        e.edge("had at first, and not now", () -> {
            WishSea x = Checks.with(all.toString());
            x.night();
            e.due("has it", x.thing(9, 3), 0);
            e.due("had it", x.thing(9, 4), 1);
        });
        e.edge("had now, and not at first", () -> {
            WishSea x = Checks.with(A + "wish w words 0 gives a;");
            x.say(0);
            e.due("has it", x.thing(0, 3), 1);
            e.due("had it", x.thing(0, 4), 0);
        });
        e.says("NONE when there is none such, or for others.");
        e.edge("THING -1", () -> e.due("thing", Checks.with(text).thing(-1, 0), -1));
        e.edge("THING 10 of ten", () -> e.due("thing", Checks.with(text).thing(10, 0), -1));
        e.edge("THING 1 of one", () -> e.due("thing", Checks.with(A).thing(1, 0), -1));
        e.edge("THING 0 of none", () -> e.due("thing", Checks.with("").thing(0, 0), -1));
        e.edge("a THING of the SHORE before", () -> {
            WishSea x = Checks.with(text);
            Checks.shore(x, A);
            e.due("thing", x.thing(1, 0), -1);
        });
        e.edge("what -1", () -> e.due("thing", Checks.with(text).thing(0, -1), -1));
        e.edge("what 6", () -> e.due("thing", Checks.with(text).thing(9, 6), -1));
        e.edge("far ones", () -> {
            for (int far : Shores.FAR) {
                e.due("THING " + far, Checks.with(text).thing(far, 0), -1);
                e.due("what " + far, Checks.with(text).thing(0, far), -1);
            }
        });
    }

    private void ofAWish() {
        e.promise(9, "int wish(int wish, int what)");
        e.says("Of a WISH: 0 what it gives, 1 needs as bits, 2 uses as bits, 3 words, 4 words and rhyme together, 5 why it may not "
                + "be said (0 when it MAY), 6 by how much it would darken the sea now, 7 how often it is told as KEPT.");
        String text = Shores.things(9) + "thing j worth 1 rhymes 9;" + "wish wa words 0 gives a;"
                + Shores.wishes(11, 1).substring("wish wa words 0 gives a;".length())
                + "wish wl words 9 gives j needs" + Shores.names(0, 10) + " uses" + Shores.names(0, 9)
                + ";dark words*11+rhymes-1;content 1=1;";
        int[] first = {0, 0, 0, 0, 1, 5, 0, 0};
        int[] last = {9, 1023, 511, 9, 18, 1, 99, 0};
        for (int what = 0; what < 8; what++) {
            int asked = what;
            e.edge("the least of " + what + ", of the first WISH", () -> e.due("wish", Checks.with(text).wish(0, asked), first[asked]));
            e.edge("the most of " + what + ", of the twelfth WISH", () -> e.due("wish", Checks.with(text).wish(11, asked), last[asked]));
        }
        e.edge("told as KEPT: 50 at most", () -> {
            WishSea x = Checks.with("thing a worth 1 rhymes 1 brief;wish w words 0 gives a;");
            for (int i = 0; i < 51; i++) {
                e.due("KEPT " + i, x.wish(0, 7), Math.min(i, 50));
                x.say(0);
                x.night();
            }
            e.due("KEPT", x.wish(0, 7), 50);
        });
        e.edge("told as KEPT: less when another one follows 50", () -> {
            WishSea x = Checks.with("thing a worth 1 rhymes 1 brief;wish w words 0 gives a;wish v words 0 gives a;");
            for (int i = 0; i < 51; i++) {
                x.say(i == 50 ? 1 : 0);
                x.night();
            }
            e.due("KEPT", x.wish(0, 7), 49);
            e.due("the other one", x.wish(1, 7), 1);
        });
        e.edge("told as KEPT when it was ONE TOO MANY", () -> {
            WishSea x = Checks.with(A + "wish w words 0 gives a;dark 2;bears 1;");
            x.say(0);
            e.due("KEPT", x.wish(0, 7), 1);
        });
        e.edge("now: as dark as the sea is now", () -> {
            WishSea x = Checks.with(A + B + "wish w words 0 gives a;wish v words 0 gives b;dark said*9+had+4;");
            e.due("ahead", x.wish(1, 6), 4);
            x.say(0);
            e.due("behind", x.wish(1, 6), 14);
            e.due("of one that may not be said", x.wish(0, 6), 14);
        });
        e.says("NONE when there is none such, or for others.");
        e.edge("WISH -1", () -> e.due("wish", Checks.with(text).wish(-1, 0), -1));
        e.edge("WISH 12 of twelve", () -> e.due("wish", Checks.with(text).wish(12, 0), -1));
        e.edge("WISH 1 of one", () -> e.due("wish", Checks.with(A + Shores.wishes(1, 1)).wish(1, 0), -1));
        e.edge("WISH 0 of none", () -> e.due("wish", Checks.with(A).wish(0, 0), -1));
        e.edge("a WISH of the SHORE before", () -> {
            WishSea x = Checks.with(text);
            Checks.shore(x, A + Shores.wishes(1, 1));
            e.due("wish", x.wish(1, 0), -1);
        });
        e.edge("what -1", () -> e.due("wish", Checks.with(text).wish(0, -1), -1));
        e.edge("what 8", () -> e.due("wish", Checks.with(text).wish(11, 8), -1));
        e.edge("far ones", () -> {
            for (int far : Shores.FAR) {
                e.due("WISH " + far, Checks.with(text).wish(far, 0), -1);
                e.due("what " + far, Checks.with(text).wish(0, far), -1);
            }
        });
    }
}
