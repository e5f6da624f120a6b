/** The boundary cases of a text: the document's part I, and its promises 1 to 5 and 7. */
final class TextEdges {
    private static final String A = "thing a worth 1 rhymes 1;";
    private static final String B = "thing b worth 1 rhymes 1;";
    private static final String W = "wish w words 1 gives a;";
    private static final String[] OWN = ("thing worth rhymes brief wish words gives needs uses first dark room content bears calm "
            + "had sea said day or and not all min max").split(" ");

    private final Edges e;

    private TextEdges(Edges e) {
        this.e = e;
    }

    static void run(Edges e) {
        TextEdges edges = new TextEdges(e);
        e.under("## Terms", "## Promise 1:");
        e.plain("## Terms");
        e.plain("Wishes are said, one too many is all as at first; days end, and what is brief is gone. Asked are: why a wish "
                + "can't be said, rows of wishes gone through, the fewest wishes to have some things, the most that can be had, "
                + "whether contentment is ever come to, how much the fish bears by other people's falls, when to stop, how two "
                + "neighbours fare at one fish by turns, what was had before the day's end; days by a seed; accounts kept; acts "
                + "undone; images.");
        edges.statements();
        edges.things();
        edges.wishes();
        edges.needsAndUses();
        edges.firsts();
        edges.oneEach();
        edges.bearsAndCalm();
        edges.tests();
        edges.facts();
        edges.sums();
        edges.parts();
        edges.partsMean();
        edges.divisions();
        edges.limits();
        edges.names();
        edges.numbers();
        edges.blanks();
        edges.ownWords();
        edges.firstFault();
        edges.firstByte();
        edges.wholeWords();
        edges.tooSoon();
        edges.tooLong();
        edges.ownWordForAName();
        edges.nameThere();
        edges.noneOfWhatIsAsked();
        edges.numberThatCanNotBe();
        edges.openAtOnce();
        edges.oneTooManyOfAKind();
        edges.newObject();
        edges.feeding();
        edges.ending();
        edges.readingAShore();
        edges.askingForTheFault();
        edges.askingForLetters();
    }

    private void statements() {
        e.says("I. A SHORE is a text: { STATEMENT ; } (80 at most):");
        e.edge("none", () -> e.fine(0, ""));
        e.edge("none, but blanks", () -> e.fine(0, " \n "));
        e.edge("one", () -> e.fine(1, "calm 1;"));
        e.edge("79", () -> e.fine(79, "calm 1;".repeat(79)));
        e.edge("80", () -> e.fine(80, "calm 1;".repeat(80)));
        e.edge("81", () -> e.fault(6, "calm 1;".repeat(80) + "^calm 1;"));
        e.edge("a ; alone", () -> e.fault(1, "^;"));
        e.edge("no ; behind the last one", () -> e.fault(1, "calm 1;calm 1^"));
        e.edge("two ; behind one", () -> e.fault(1, "calm 1;^;"));
        e.edge("80 and a ;", () -> e.fault(1, "calm 1;".repeat(80) + "^;"));
    }

    private void things() {
        e.says("thing NAME worth N rhymes N (0 .. 99, 1 .. 9; 10 THINGS)");
        e.edge("worth 0", () -> e.due("worth", Checks.with("thing a worth 0 rhymes 1;").thing(0, 0), 0));
        e.edge("worth 99", () -> e.due("worth", Checks.with("thing a worth 99 rhymes 1;").thing(0, 0), 99));
        e.edge("worth 100", () -> e.fault(4, "thing a worth ^100 rhymes 1;"));
        e.edge("worth 9999", () -> e.fault(4, "thing a worth ^9999 rhymes 1;"));
        e.edge("rhymes 0", () -> e.fault(4, "thing a worth 0 rhymes ^0;"));
        e.edge("rhymes 1", () -> e.due("rhyme", Checks.with("thing a worth 0 rhymes 1;").thing(0, 1), 1));
        e.edge("rhymes 9", () -> e.due("rhyme", Checks.with("thing a worth 0 rhymes 9;").thing(0, 1), 9));
        e.edge("rhymes 10", () -> e.fault(4, "thing a worth 0 rhymes ^10;"));
        e.edge("rhymes 9999", () -> e.fault(4, "thing a worth 0 rhymes ^9999;"));
        e.edge("10 THINGS", () -> e.fine(10, Shores.things(10)));
        e.edge("11 THINGS", () -> e.fault(6, Shores.things(10) + "^thing k worth 1 rhymes 1;"));
        e.says("and brief behind it if it is gone when a DAY ends;");
        e.edge("brief", () -> e.due("brief", Checks.with("thing a worth 1 rhymes 1 brief;").thing(0, 2), 1));
        e.edge("not brief", () -> e.due("brief", Checks.with(A).thing(0, 2), 0));
        e.edge("brief twice", () -> e.fault(1, "thing a worth 1 rhymes 1 brief ^brief;"));
        e.edge("brief ahead", () -> e.fault(1, "thing a worth 1 ^brief rhymes 1;"));
        e.edge("ten brief ones", () -> {
            WishSea x = Checks.with(Shores.things(10, " brief") + Shores.firsts(10));
            e.due("had", x.has(2), 1023);
            x.night();
            e.due("had then", x.has(2), 0);
        });
    }

    private void wishes() {
        e.says("wish NAME words N gives NAME (0 .. 9; a THING; 12 WISHES),");
        e.edge("words 0", () -> e.due("words", Checks.with(A + "wish w words 0 gives a;").wish(0, 3), 0));
        e.edge("words 9", () -> e.due("words", Checks.with(A + "wish w words 9 gives a;").wish(0, 3), 9));
        e.edge("words 10", () -> e.fault(4, A + "wish w words ^10 gives a;"));
        e.edge("words 9999", () -> e.fault(4, A + "wish w words ^9999 gives a;"));
        e.edge("gives the last THING", () ->
                e.due("gives", Checks.with(Shores.things(10) + "wish w words 0 gives j;").wish(0, 0), 9));
        e.edge("gives a WISH", () -> e.fault(3, A + W + "wish v words 1 gives ^w;"));
        e.edge("gives itself", () -> e.fault(3, A + "wish v words 1 gives ^v;"));
        e.edge("gives where there are no THINGS", () -> e.fault(3, "wish v words 1 gives ^a;"));
        e.edge("12 WISHES", () -> e.fine(13, A + Shores.wishes(12, 1)));
        e.edge("13 WISHES", () -> e.fault(6, A + Shores.wishes(12, 1) + "^wish wm words 0 gives a;"));
    }

    private void needsAndUses() {
        String ten = Shores.things(10);
        String wish = ten + "wish w words 0 gives a";
        e.says("then needs NAME { NAME } if it needs some,");
        e.edge("without needs", () -> e.due("needs", Checks.with(wish + ";").wish(0, 1), 0));
        e.edge("needs none", () -> e.fault(1, wish + " needs^;"));
        e.edge("needs one", () -> e.due("needs", Checks.with(wish + " needs j;").wish(0, 1), 512));
        e.edge("needs ten", () -> e.due("needs", Checks.with(wish + " needs" + Shores.names(0, 10) + ";").wish(0, 1), 1023));
        e.edge("needs eleven", () -> e.fault(3, wish + " needs" + Shores.names(0, 10) + " ^b;"));
        e.edge("needs what it gives", () -> e.due("needs", Checks.with(wish + " needs a;").wish(0, 1), 1));
        e.edge("needs twice", () -> e.fault(1, wish + " needs b ^needs c;"));
        e.says("then uses NAME { NAME } if it uses some up (THINGS, unlike ones in each of both; one that it gives can't be used);");
        e.edge("without uses", () -> e.due("uses", Checks.with(wish + " needs b;").wish(0, 2), 0));
        e.edge("uses none", () -> e.fault(1, wish + " uses^;"));
        e.edge("uses one", () -> e.due("uses", Checks.with(wish + " uses j;").wish(0, 2), 512));
        e.edge("uses all but the one that it gives", () ->
                e.due("uses", Checks.with(wish + " uses" + Shores.names(1, 10) + ";").wish(0, 2), 1022));
        e.edge("uses the one that it gives, too", () -> e.fault(3, wish + " uses" + Shores.names(1, 10) + " ^a;"));
        e.edge("uses the one that it gives alone", () -> e.fault(3, wish + " uses ^a;"));
        e.edge("like ones in both rows", () -> {
            WishSea x = Checks.with(wish + " needs b c uses b c;");
            e.due("needs", x.wish(0, 1), 6);
            e.due("uses", x.wish(0, 2), 6);
        });
        e.edge("like ones in needs", () -> e.fault(3, wish + " needs b c ^b;"));
        e.edge("like ones in uses", () -> e.fault(3, wish + " needs b uses b c ^c;"));
        e.edge("a WISH needed", () -> e.fault(3, ten + "wish v words 0 gives a;wish w words 0 gives a needs ^v;"));
        e.edge("a WISH used", () -> e.fault(3, ten + "wish v words 0 gives a;wish w words 0 gives a uses b ^v;"));
        e.edge("uses ahead of needs", () -> e.fault(1, wish + " uses b ^needs c;"));
    }

    private void firsts() {
        e.says("first NAME (a THING that one has at first; not told already);");
        e.edge("no THING is", () -> e.due("had", Checks.with(Shores.things(10)).has(2), 0));
        e.edge("the last THING is", () -> e.due("had", Checks.with(Shores.things(10) + "first j;").has(2), 512));
        e.edge("all are", () -> e.due("had", Checks.with(Shores.things(10) + Shores.firsts(10)).has(2), 1023));
        e.edge("told already", () -> e.fault(3, A + B + "first a;first b;first ^a;"));
        e.edge("a WISH", () -> e.fault(3, A + W + "first ^w;"));
        e.edge("no THING", () -> e.fault(3, A + "first ^b;"));
        e.edge("two in one", () -> e.fault(1, A + B + "first a ^b;"));
        e.edge("none in one", () -> e.fault(1, A + "first^;"));
    }

    private void oneEach() {
        e.says("dark SUM, room SUM, content TEST (one each);");
        e.edge("one each", () -> e.fine(3, "dark 1;room 1;content all;"));
        e.edge("a second dark", () -> e.fault(6, "dark 1;^dark 1;"));
        e.edge("a second room", () -> e.fault(6, "room 1;dark 1;^room 1;"));
        e.edge("a second content", () -> e.fault(6, "content all;room 1;dark 1;^content all;"));
        e.edge("dark of none", () -> e.fault(1, "dark^;"));
        e.edge("room of none", () -> e.fault(1, "room^;"));
        e.edge("content of none", () -> e.fault(1, "content^;"));
        e.edge("dark of a TEST", () -> e.fault(1, "dark 1^<2;"));
        e.edge("room of a TEST", () -> e.fault(1, "room ^all;"));
        e.edge("content of a SUM", () -> e.fault(1, "content 1^;"));
    }

    private void bearsAndCalm() {
        e.says("bears N (1 .. 999), calm N (0 .. 999): the last one of each counts (100 and 0 without).");
        e.edge("bears 0", () -> e.fault(4, "bears ^0;"));
        e.edge("bears 1", () -> e.due("bears", Checks.with("bears 1;").has(9), 1));
        e.edge("bears 999", () -> e.due("bears", Checks.with("bears 999;").has(9), 999));
        e.edge("bears 1000", () -> e.fault(4, "bears ^1000;"));
        e.edge("calm 0", () -> e.due("calm", Checks.with("calm 5;calm 0;").has(10), 0));
        e.edge("calm 999", () -> e.due("calm", Checks.with("calm 999;").has(10), 999));
        e.edge("calm 1000", () -> e.fault(4, "calm ^1000;"));
        e.edge("the last bears", () -> e.due("bears", Checks.with("bears 7;bears 9;bears 8;").has(9), 8));
        e.edge("the last calm", () -> e.due("calm", Checks.with("calm 7;calm 9;calm 8;").has(10), 8));
        e.edge("without bears", () -> e.due("bears", Checks.with("calm 7;").has(9), 100));
        e.edge("without calm", () -> e.due("calm", Checks.with("bears 7;").has(10), 0));
    }

    private int content(String test) {
        return Checks.with(A + B + "first a;content " + test + ";").has(8);
    }

    private void tests() {
        e.says("TEST: BOTH { or BOTH }.");
        e.edge("one BOTH", () -> e.due("content", content("1=1"), 1));
        e.edge("as many as the tape holds", () -> e.due("content", content("1=2" + " or 1=2".repeat(200) + " or 1=1"), 1));
        e.edge("none of as many", () -> e.due("content", content("1=2" + " or 1=2".repeat(200)), 0));
        e.edge("or ahead of all", () -> e.fault(1, "content ^or 1=1;"));
        e.edge("or behind all", () -> e.fault(1, "content 1=1 or^;"));
        e.edge("or twice", () -> e.fault(1, "content 1=1 or ^or 1=1;"));
        e.says("BOTH: FACT { and FACT }.");
        e.edge("as many as the tape holds", () -> e.due("content", content("1=1" + " and 1=1".repeat(180)), 1));
        e.edge("all but one", () -> e.due("content", content("1=1" + " and 1=1".repeat(180) + " and 1=2"), 0));
        e.edge("and ahead of all", () -> e.fault(1, "content ^and 1=1;"));
        e.edge("and behind all", () -> e.fault(1, "content 1=1 and^;"));
        e.edge("and twice", () -> e.fault(1, "content 1=1 and ^and 1=1;"));
        e.edge("and is ahead of or", () -> e.due("content", content("1=1 or 1=1 and 1=2"), 1));
    }

    private void facts() {
        e.says("FACT: not FACT; [ TEST ] ; all; SUM SIGN SUM, SIGN < or > or = .");
        e.edge("not of none", () -> e.fault(1, "content not^;"));
        e.edge("not of what holds", () -> e.due("content", content("not 1=1"), 0));
        e.edge("not of what doesn't hold", () -> e.due("content", content("not 1=2"), 1));
        e.edge("not of <, of >, of all", () -> e.due("content", content("not 1<2 or not 2>1 or not not all"), 0));
        e.edge("7 not of what holds", () -> e.due("content", content("not not not not not not not 1=1"), 0));
        e.edge("7 not of what doesn't hold", () -> e.due("content", content("not not not not not not not 1=2"), 1));
        e.edge("not of the next FACT alone", () -> e.due("content", content("not 1=2 and 1=2"), 0));
        e.edge("not behind a FACT", () -> e.due("content", content("1=1 and not 1=2"), 1));
        e.edge("not of [ ]", () -> e.due("content", content("not [1=1 and 1=2]"), 1));
        e.edge("7 [ ]", () -> e.due("content", content("[[[[[[[1=1]]]]]]]"), 1));
        e.edge("[ ] ahead of and", () -> e.due("content", content("[1=1 or 1=1] and 1=2"), 0));
        e.edge("[ ] of none", () -> e.fault(1, "content [^];"));
        e.edge("[ that isn't closed", () -> e.fault(1, "content [1=1^;"));
        e.edge("] that wasn't open", () -> e.fault(1, "content 1=1^];"));
        e.edge("round ones for a TEST", () -> e.fault(1, "content (1^=1);"));
        e.edge("all of none", () -> e.due("content", Checks.with("content all;").has(8), 1));
        e.edge("all of one", () -> e.due("content", Checks.with(A + "first a;content all;").has(8), 1));
        e.edge("all but one", () -> e.due("content", Checks.with(Shores.things(10) + Shores.firsts(9) + "content all;").has(8), 0));
        e.edge("all of ten", () -> e.due("content", Checks.with(Shores.things(10) + Shores.firsts(10) + "content all;").has(8), 1));
        e.edge("one less than like", () -> e.due("<", content("4<5") * 4 + content("4>5") * 2 + content("4=5"), 4));
        e.edge("like", () -> e.due("=", content("5<5") * 4 + content("5>5") * 2 + content("5=5"), 1));
        e.edge("one more than like", () -> e.due(">", content("6<5") * 4 + content("6>5") * 2 + content("6=5"), 2));
        e.edge("no SIGN", () -> e.fault(1, "content 1 ^1;"));
        e.edge("two SIGNS", () -> e.fault(1, "content 1=1^=1;"));
        e.edge("SIGN ahead of all", () -> e.fault(1, "content ^=1;"));
        e.edge("SIGN behind all", () -> e.fault(1, "content 1=^;"));
        e.edge("no such SIGN", () -> e.fault(1, "content 1<^=1;"));
    }

    private void sums() {
        e.says("SUM: PRODUCT { + or - PRODUCT }.");
        e.edge("as many as the tape holds", () -> e.due("room", Shores.room("1" + "+1-1".repeat(396) + "+1"), 2));
        e.edge("+ ahead of all", () -> e.fault(1, "room ^+1;"));
        e.edge("- ahead of all", () -> e.fault(1, "room ^-1;"));
        e.edge("- behind all", () -> e.fault(1, "room 1-^;"));
        e.edge("two signs", () -> e.fault(1, "room 1-^-1;"));
        e.says("PRODUCT: PART { * or / or % PART }.");
        e.edge("as many as the tape holds", () -> e.due("room", Shores.room("8" + "*2/2".repeat(396)), 8));
        e.edge("* ahead of all", () -> e.fault(1, "room ^*1;"));
        e.edge("% behind all", () -> e.fault(1, "room 1%^;"));
        e.edge("two signs", () -> e.fault(1, "room 1/^/1;"));
    }

    private void parts() {
        e.says("PART: N; worth; had; sea; said; day; words; rhymes; ( SUM ) ; min ( SUM , SUM ) ; max ( SUM , SUM ) .");
        e.edge("N 0", () -> e.due("room", Shores.room("0"), 0));
        e.edge("N 9999", () -> e.due("room", Shores.room("9999-9990"), 9));
        e.edge("( ) of none", () -> e.fault(1, "room (^);"));
        e.edge("( that isn't closed", () -> e.fault(1, "room (1^;"));
        e.edge(") that wasn't open", () -> e.fault(1, "room 1^);"));
        e.edge("min of none", () -> e.fault(1, "room min(^);"));
        e.edge("min of one", () -> e.fault(1, "room min(1^);"));
        e.edge("min of three", () -> e.fault(1, "room min(1,2^,3);"));
        e.edge("min without (", () -> e.fault(1, "room min ^1,2);"));
        e.edge("min alone", () -> e.fault(1, "room min^;"));
        e.edge("max alone in a SUM", () -> e.fault(1, "room 1+max^+1;"));
        e.edge("min alone in a FACT", () -> e.fault(1, "content min^<1;"));
        e.edge("min with [", () -> e.fault(1, "room min^[1,2];"));
        e.edge("max without )", () -> e.fault(1, "room max(1,2^;"));
        e.edge("min of like ones", () -> e.due("room", Shores.room("min(7,7)"), 7));
        e.edge("min, the first one less", () -> e.due("room", Shores.room("min(6,7)"), 6));
        e.edge("min, the first one more", () -> e.due("room", Shores.room("min(8,7)"), 7));
        e.edge("max of like ones", () -> e.due("room", Shores.room("max(7,7)"), 7));
        e.edge("max, the first one less", () -> e.due("room", Shores.room("max(6,7)"), 7));
        e.edge("max, the first one more", () -> e.due("room", Shores.room("max(8,7)"), 8));
        e.edge("a NAME", () -> e.fault(1, A + "room ^a;"));
        e.edge("an OWN WORD that is no PART", () -> e.fault(1, "room ^calm;"));
    }

    private void partsMean() {
        String ten = "thing a worth 99 rhymes 9;thing b worth 99 rhymes 9;thing c worth 99 rhymes 9;thing d worth 99 rhymes 9;"
                + "thing e worth 99 rhymes 9;thing f worth 99 rhymes 9;thing g worth 99 rhymes 9;thing h worth 99 rhymes 9;"
                + "thing i worth 99 rhymes 9;thing j worth 99 rhymes 9;";
        e.says("(The worth of all THINGS that one has together, how many these are, how dark the sea is, how many WISHES were said "
                + "this DAY, the DAY; in dark: words of the WISH, the rhyme of what it gives, else 0 both.)");
        e.edge("worth of none", () -> e.due("room", Checks.with(ten + "room worth;").has(7), 0));
        e.edge("worth of ten", () -> e.due("room", Checks.with(ten + Shores.firsts(10) + "room worth/10;").has(7), 99));
        e.edge("none had", () -> e.due("room", Checks.with(ten + "room had;").has(7), 0));
        e.edge("ten had", () -> e.due("room", Checks.with(ten + Shores.firsts(10) + "room had;").has(7), 10));
        e.edge("a sea of 0", () -> e.due("room", Checks.with("room sea+5;").has(7), 5));
        e.edge("a sea of 999", () -> e.due("room", Shores.at("bears 999;room sea-990;", 0, 0, 999, 0).has(7), 9));
        e.edge("none said", () -> e.due("room", Checks.with("room said+5;").has(7), 5));
        e.edge("9999 said", () -> e.due("room", Shores.at("room said-9990;", 0, 9999, 0, 0).has(7), 9));
        e.edge("said this DAY alone", () -> {
            WishSea x = Shores.at("room said;", 0, 50, 0, 0);
            e.due("room", x.has(7), 50);
            x.night();
            e.due("room then", x.has(7), 0);
        });
        e.edge("DAY 0", () -> e.due("room", Checks.with("room day+5;").has(7), 5));
        e.edge("DAY 9999", () -> e.due("room", Shores.at("room day-9990;", 9999, 0, 0, 0).has(7), 9));
        e.edge("words and rhymes in dark, least", () -> e.due("dark",
                Checks.with(A + "wish w words 0 gives a;dark words*10+rhymes;").wish(0, 6), 1));
        e.edge("words and rhymes in dark, greatest", () -> e.due("dark",
                Checks.with(ten + "wish w words 9 gives a;dark words*10+rhymes;").wish(0, 6), 99));
        e.edge("words and rhymes in room", () -> e.due("room",
                Checks.with(ten + "wish w words 9 gives a;room 50+words+rhymes;").has(7), 50));
        e.edge("words and rhymes in room, asked for a WISH", () -> e.due("why",
                Checks.with(ten + "wish w words 9 gives a;room words+rhymes;").wish(0, 5), 4));
        e.edge("words and rhymes in content", () -> e.due("why",
                Checks.with(ten + "wish w words 9 gives a;content words=0 and rhymes=0;").wish(0, 5), 5));
    }

    private void divisions() {
        e.says("All from the left on;");
        e.edge("less, less", () -> e.due("room", Shores.room("9-3-2"), 4));
        e.edge("by, by", () -> e.due("room", Shores.room("80/4/2"), 10));
        e.edge("rest, times", () -> e.due("room", Shores.room("9%5*3"), 12));
        e.edge("times, rest", () -> e.due("room", Shores.room("9*5%3"), 0));
        e.says("/ gives the greatest whole number not above,");
        e.edge("just so many", () -> e.due("room", Shores.room("50+8/2"), 54));
        e.edge("one less than that", () -> e.due("room", Shores.room("50+7/2"), 53));
        e.edge("just so many below 0", () -> e.due("room", Shores.room("50+(0-8)/2"), 46));
        e.edge("one less than that below 0", () -> e.due("room", Shores.room("50+(0-9)/2"), 45));
        e.edge("one more than that below 0", () -> e.due("room", Shores.room("50+(0-7)/2"), 46));
        e.edge("by a number below 0", () -> e.due("room", Shores.room("50+7/(0-2)"), 46));
        e.edge("both below 0", () -> e.due("room", Shores.room("50+(0-7)/(0-2)"), 53));
        e.edge("just below 0", () -> e.due("room", Shores.room("50+(0-1)/9999"), 49));
        e.edge("0 by a number", () -> e.due("room", Shores.room("50+0/9999"), 50));
        e.says("% what is left (a less b times that);");
        e.edge("nothing is left", () -> e.due("room", Shores.room("50+8%2"), 50));
        e.edge("all is left", () -> e.due("room", Shores.room("50+7%8"), 57));
        e.edge("a below 0", () -> e.due("room", Shores.room("50+(0-7)%4"), 51));
        e.edge("b below 0", () -> e.due("room", Shores.room("50+7%(0-4)"), 49));
        e.edge("both below 0", () -> e.due("room", Shores.room("50+(0-7)%(0-4)"), 47));
        e.edge("nothing is left below 0", () -> e.due("room", Shores.room("50+(0-8)%4"), 50));
        e.says("by 0 both give 0;");
        e.edge("/ 0", () -> e.due("room", Shores.room("50+7/0"), 50));
        e.edge("% 0", () -> e.due("room", Shores.room("50+7%0"), 50));
        e.edge("below 0 / 0", () -> e.due("room", Shores.room("50+(0-7)/0"), 50));
        e.edge("below 0 % 0", () -> e.due("room", Shores.room("50+(0-7)%0"), 50));
        e.edge("0 / 0", () -> e.due("room", Shores.room("50+0/0"), 50));
        e.edge("by a PART that is 0", () -> e.due("room", Shores.room("50+9/sea+9%day"), 50));
    }

    private void limits() {
        // 1000 * 1000 is the limit itself, 999 * 1001 is one below it.
        e.says("each result above 10 to the 6 is that,");
        e.edge("at it", () -> e.due("room", Shores.room("1000*1000-999*1001"), 1));
        e.edge("one below it", () -> e.due("room", Shores.room("999*1001-999*1000"), 99));
        e.edge("up to it by +", () -> e.due("room", Shores.room("999*1001+1-999*1001"), 1));
        e.edge("one above it by +", () -> e.due("room", Shores.room("1000*1000+1-999*1001"), 1));
        e.edge("one above it by -", () -> e.due("room", Shores.room("1000*1000-(0-1)-999*1001"), 1));
        e.edge("above it by *", () -> e.due("room", Shores.room("1001*1000-999*1001"), 1));
        e.edge("above it by / by -1", () -> e.due("room", Shores.room("(0-1000)*1000/(0-1)-999*1001"), 1));
        e.edge("far above it, where 32 bits end", () -> e.due("room", Shores.room("9999*9999*(9999*9999)/1000-950"), 50));
        e.edge("each result, not the last one alone", () -> e.due("room", Shores.room("9999*9999-9999*9999+5"), 5));
        e.says("below -10 to the 6 likewise.");
        e.edge("at it", () -> e.due("room", Shores.room("(0-1000)*1000+999*1001+50"), 49));
        e.edge("one above it", () -> e.due("room", Shores.room("(0-999)*1001+1000*1000"), 1));
        e.edge("one below it by -", () -> e.due("room", Shores.room("(0-1000)*1000-1+999*1001+50"), 49));
        e.edge("one below it by +", () -> e.due("room", Shores.room("(0-1000)*1000+(0-1)+999*1001+50"), 49));
        e.edge("below it by *", () -> e.due("room", Shores.room("(0-1001)*1000+999*1001+50"), 49));
        e.edge("far below it, where 32 bits end", () ->
                e.due("room", Shores.room("(0-9999*9999)*(9999*9999)/1000+1050"), 50));
    }

    private void names() {
        e.says("NAMES: 1 to 6 letters, unlike ones (of all sorts), told ahead of where they are asked.");
        e.edge("1 letter", () -> e.fine(1, "thing z worth 1 rhymes 1;"));
        e.edge("6 letters", () -> e.fine(1, "thing azazaz worth 1 rhymes 1;"));
        e.edge("7 letters", () -> e.fault(1, "thing azazaz^a worth 1 rhymes 1;"));
        e.edge("no letters", () -> e.fault(1, "thing ^worth 1 rhymes 1;"));
        e.edge("the byte ahead of a", () -> e.fault(1, "thing ^` worth 1 rhymes 1;"));
        e.edge("the byte behind z", () -> e.fault(1, "thing ^{ worth 1 rhymes 1;"));
        e.edge("a capital letter", () -> e.fault(1, "thing ^A worth 1 rhymes 1;"));
        e.edge("a digit in it", () -> e.fault(1, "thing a^1 worth 1 rhymes 1;"));
        e.edge("unlike in the last letter alone", () -> e.fine(2, "thing aaaaaa worth 1 rhymes 1;thing aaaaab worth 1 rhymes 1;"));
        e.edge("unlike in the first letter alone", () -> e.fine(2, "thing aaaaaa worth 1 rhymes 1;thing baaaaa worth 1 rhymes 1;"));
        e.edge("unlike in the length alone", () -> e.fine(2, "thing a worth 1 rhymes 1;thing aa worth 1 rhymes 1;"));
        e.edge("two THINGS alike", () -> e.fault(2, A + "thing ^a worth 1 rhymes 1;"));
        e.edge("two WISHES alike", () -> e.fault(2, A + W + "wish ^w words 1 gives a;"));
        e.edge("a WISH as a THING", () -> e.fault(2, A + "wish ^a words 1 gives a;"));
        e.edge("a THING as a WISH", () -> e.fault(2, A + W + "thing ^w worth 1 rhymes 1;"));
        e.edge("asked ahead of where it is told, gives", () -> e.fault(3, A + "wish w words 1 gives ^b;" + B));
        e.edge("asked ahead of where it is told, needs", () -> e.fault(3, A + "wish w words 1 gives a needs ^b;" + B));
        e.edge("asked ahead of where it is told, uses", () -> e.fault(3, A + "wish w words 1 gives a uses ^b;" + B));
        e.edge("asked ahead of where it is told, first", () -> e.fault(3, A + "first ^b;" + B));
        e.edge("a NAME of the SHORE before", () -> {
            WishSea x = Checks.with(A);
            e.due("shore", Checks.shore(x, "first a;"), -1);
            e.due("fault", x.fault(0), 3);
            e.due("told once more", Checks.shore(x, A), 1);
        });
        e.edge("a NAME of a refused text", () -> {
            WishSea x = Checks.with("");
            e.due("refused", Checks.shore(x, A + "calm"), -1);
            e.due("once more", Checks.shore(x, A), 1);
        });
    }

    private void numbers() {
        e.says("NUMBERS: 1 to 4 digits.");
        e.edge("1 digit", () -> e.due("room", Shores.room("9"), 9));
        e.edge("4 digits", () -> e.due("room", Shores.room("1098-1000"), 98));
        e.edge("5 digits", () -> e.fault(1, "room 1098^9;"));
        e.edge("4 digits with 0 ahead", () -> e.due("room", Shores.room("0009"), 9));
        e.edge("5 digits with 0 ahead", () -> e.fault(1, "room 0000^9;"));
        e.edge("four digits of 0", () -> e.due("room", Shores.room("0000"), 0));
        e.edge("the byte ahead of 0", () -> e.fault(1, "room ^.;"));
        e.edge("the byte two ahead of 1", () -> e.fault(1, "room ^/;"));
        e.edge("the byte behind 9", () -> e.fault(1, "room ^:;"));
        e.edge("no digit", () -> e.fault(1, "bears ^;"));
        e.edge("a number below 0", () -> e.fault(1, "calm ^-1;"));
    }

    private void blanks() {
        e.says("Blanks (10, 32) are where one likes (words and numbers side by side need one).");
        e.edge("ahead and behind", () -> e.fine(1, "\n calm 1; \n"));
        e.edge("between all", () -> e.fine(2, "room ( 1 + 2 ) * min ( 3 , 4 ) ;\n\ncontent [ not [ 1 = 1 ] ] ;"));
        e.edge("nowhere", () -> e.fine(2, "room(1+2)*min(3,4);content[not[1=1]or all]and[all];"));
        e.edge("as many as the tape holds", () -> e.fine(1, "calm" + " ".repeat(1594) + "1;"));
        e.edge("10 alone between words", () -> e.fine(1, "thing\na\nworth\n1\nrhymes\n1\nbrief\n;"));
        e.edge("byte 9", () -> e.fault(1, "calm^\t1;"));
        e.edge("byte 11", () -> e.fault(1, "calm^\u000b1;"));
        e.edge("byte 13", () -> e.fault(1, "calm^\r1;"));
        e.edge("byte 31", () -> e.fault(1, "calm^\u001f1;"));
        e.edge("byte 33", () -> e.fault(1, "calm^!1;"));
        e.edge("byte 0", () -> e.fault(1, "calm^\u00001;"));
        e.edge("byte 128", () -> e.fault(1, "calm^\u00801;"));
        e.edge("byte 160", () -> e.fault(1, "calm^\u00a01;"));
        e.edge("byte 255", () -> e.fault(1, "calm^\u00ff1;"));
        e.edge("none between a word and a number", () -> e.fault(1, "calm^1;"));
        e.edge("none between a number and a word", () -> e.fault(1, "thing a worth 1^rhymes 1;"));
        e.edge("none between a NAME and a number", () -> e.fault(1, "thing a^1;"));
        e.edge("none between a number and a sign", () -> e.fine(1, "room 1+2;"));
        e.edge("none between a word and a sign", () -> e.fine(1, "room sea+had;"));
        e.edge("one in a word", () -> e.fault(1, "^ca lm 1;"));
        e.edge("one in a number", () -> e.fault(1, "calm 1 ^1;"));
    }

    private void ownWords() {
        e.says("OWN WORDS, which no NAME is: thing, worth, rhymes, brief, wish, words, gives, needs, uses, first, dark, room, "
                + "content, bears, calm, had, sea, said, day, or, and, not, all, min, max.");
        for (String word : OWN) {
            e.edge(word + " as a THING", () -> e.fault(1, "thing ^" + word + " worth 1 rhymes 1;"));
            e.edge(word + " as a WISH", () -> e.fault(1, A + "wish ^" + word + " words 1 gives a;"));
            String less = word.substring(0, Math.min(6, word.length() - 1));
            e.edge(word + " less a letter", () -> e.fine(1, "thing " + less + " worth 1 rhymes 1;"));
            if (word.length() < 6) {
                e.edge(word + " and a letter", () -> e.fine(1, "thing " + word + "a worth 1 rhymes 1;"));
            } else {
                e.edge(word + " and a letter", () -> e.fault(1, "thing " + word.substring(0, 6) + "^"
                        + word.substring(6) + "a worth 1 rhymes 1;"));
            }
        }
        e.edge("the word of a term that is none", () -> e.fine(2, "thing fish worth 1 rhymes 1;thing things worth 1 rhymes 1;"));
    }

    private void firstFault() {
        e.says("FAULTS, the first along the text:");
        e.edge("4 ahead of 1", () -> e.fault(4, "calm ^1000;;"));
        e.edge("1 ahead of 4", () -> e.fault(1, "calm 1^,bears 0;"));
        e.edge("2 ahead of 4", () -> e.fault(2, A + "thing ^a worth 100 rhymes 0;"));
        e.edge("3 ahead of 2", () -> e.fault(3, A + "first ^b;thing a worth 1 rhymes 1;"));
        e.edge("6 ahead of 1", () -> e.fault(6, "dark 1;^dark;"));
        e.edge("5 ahead of 1", () -> e.fault(5, "content not not not not not not not ^not"));
        e.edge("4 ahead of a 7th letter in the next word", () -> e.fault(4, "thing a worth ^100 abcdefg"));
        e.edge("2 ahead of a 7th letter in the next word", () -> e.fault(2, A + "thing ^a abcdefg"));
        e.edge("3 ahead of a 5th digit in the next number", () -> e.fault(3, A + "first ^b 12345"));
        e.edge("6 ahead of a 5th digit in the next number", () -> e.fault(6, "dark 1;^dark 12345;"));
        e.edge("5 ahead of a 5th digit in the next number", () -> e.fault(5, "dark (((((((^(12345"));
        e.edge("1 ahead of a 7th letter in the next word", () -> e.fault(1, "calm ^; abcdefg"));
        e.edge("a FAULT in the last byte of a full tape", () -> e.fault(1, "calm 1;" + " ".repeat(1592) + "^;"));
    }

    private void firstByte() {
        e.says("1 the first byte with which no SHORE goes on");
        e.edge("byte 0 of the text", () -> e.fault(1, "^,"));
        e.edge("an OWN WORD that begins no STATEMENT", () -> e.fault(1, "^worth 1;"));
        e.edge("a NAME that begins no STATEMENT", () -> e.fault(1, A + "^a 1;"));
        e.edge("a number that begins no STATEMENT", () -> e.fault(1, "^1;"));
        e.edge("the 81st begins no STATEMENT", () -> e.fault(1, "calm 1;".repeat(80) + "^worth"));
        e.edge("another OWN WORD", () -> e.fault(1, "thing a ^words 1;"));
        e.edge("a NAME for an OWN WORD", () -> e.fault(1, "thing a ^b 1;"));
        e.edge("a number for an OWN WORD", () -> e.fault(1, "thing a ^5 1;"));
        e.edge("a number for a NAME", () -> e.fault(1, "thing ^5 worth 1;"));
        e.edge("a word for a number", () -> e.fault(1, "thing a worth ^a rhymes 1;"));
        e.edge("a sign for a ;", () -> e.fault(1, "calm 1^,"));
        e.edge("a word for a ;", () -> e.fault(1, A + "first a ^calm 1;"));
        e.edge("a sign that no SHORE has", () -> e.fault(1, "room 1^&2;"));
        e.edge("a second brief", () -> e.fault(1, "thing a worth 1 rhymes 1 brief ^brief;"));
        e.edge("a ] for a )", () -> e.fault(1, "room (1^];"));
        e.edge("a ) for a ]", () -> e.fault(1, "content [1=1^);"));
    }

    private void wholeWords() {
        e.says("(words and numbers whole, at their first byte;");
        e.edge("a word less its last letter", () -> e.fault(1, "^cal 1;"));
        e.edge("a word and a letter", () -> e.fault(1, "^calms 1;"));
        e.edge("a word cut by the end", () -> e.fault(1, "^cal"));
        e.edge("a word that goes wrong at its end", () -> e.fault(1, "thing a ^wortx 1 rhymes 1;"));
        e.edge("a number of many digits", () -> e.fault(1, "thing ^1234 worth 1;"));
        e.edge("two words as one", () -> e.fault(1, A + "^firsta;"));
        e.edge("a word with no blank ahead of it", () -> e.fault(1, "thing a worth 1^rhymes 1;"));
        e.edge("a number with no blank ahead of it", () -> e.fault(1, "thing a worth^99 rhymes 1;"));
    }

    private void tooSoon() {
        e.says("at the text's length, if it ends too soon;");
        for (String part : new String[] {"thing", "thing a", "thing a worth", "thing a worth 1", "thing a worth 1 rhymes",
            "thing a worth 1 rhymes 1", "thing a worth 1 rhymes 1 brief", A + "wish", A + "wish w", A + "wish w words",
            A + "wish w words 1", A + "wish w words 1 gives", A + "wish w words 1 gives a", A + "wish w words 1 gives a needs",
            A + "wish w words 1 gives a needs a", A + B + "wish w words 1 gives a uses", A + B + "wish w words 1 gives a uses b",
            "first", A + "first a", "dark", "dark 1", "dark 1+", "dark 1*", "dark (", "dark (1", "dark (1)", "dark min", "dark min(",
            "dark min(1", "dark min(1,", "dark min(1,2", "room", "room sea", "content", "content 1", "content 1<", "content 1<2",
            "content not", "content [", "content [all", "content [all]", "content all and", "content all or", "bears", "bears 1",
            "calm", "calm 1"}) {
            e.edge("behind " + part, () -> e.fault(1, part + "^"));
            e.edge("behind " + part + " and blanks", () -> e.fault(1, part + " \n^"));
        }
        e.edge("behind a full tape", () -> e.fault(1, "calm 1" + " ".repeat(1594) + "^"));
    }

    private void tooLong() {
        e.says("a 7th letter of what is no OWN WORD, a 5th digit at itself, whatever may stand there;");
        e.edge("a 7th letter of a NAME", () -> e.fault(1, "thing abcdef^g worth"));
        e.edge("a 7th letter of a NAME that ends the text", () -> e.fault(1, "thing abcdef^g"));
        e.edge("a 7th letter of more", () -> e.fault(1, "thing abcdef^ghijklmnopqrstuvwxyz worth"));
        e.edge("a 7th letter where a number may stand", () -> e.fault(1, "calm abcdef^g;"));
        e.edge("a 7th letter where an OWN WORD may stand", () -> e.fault(1, "thing a worthw^o 1;"));
        e.edge("a 7th letter where a ; may stand", () -> e.fault(1, "calm 1 abcdef^g"));
        e.edge("a 7th letter where a STATEMENT may begin", () -> e.fault(1, "abcdef^gh"));
        e.edge("a 7th letter where the 81st STATEMENT would begin", () -> e.fault(1, "calm 1;".repeat(80) + "abcdef^g"));
        e.edge("the OWN WORD of 7 letters", () -> e.fine(1, "content all;"));
        e.edge("the OWN WORD of 7 letters and one", () -> e.fault(1, "conten^ts all;"));
        e.edge("the OWN WORD of 7 letters but the last one", () -> e.fault(1, "conten^d all;"));
        e.edge("a 7th letter of what begins with an OWN WORD", () -> e.fault(1, "thing rhymes^s worth"));
        e.edge("a 7th letter of 1600", () -> e.fault(1, "aaaaaa^a" + "a".repeat(1593)));
        e.edge("a 5th digit where a number may stand", () -> e.fault(1, "calm 1000^0;"));
        e.edge("a 5th digit of 0", () -> e.fault(1, "calm 0000^1;"));
        e.edge("a 5th digit that ends the text", () -> e.fault(1, "calm 1234^5"));
        e.edge("a 5th digit where a NAME may stand", () -> e.fault(1, "thing 1234^5"));
        e.edge("a 5th digit where a ; may stand", () -> e.fault(1, "calm 1 1234^5"));
        e.edge("a 5th digit where a STATEMENT may begin", () -> e.fault(1, "1234^56"));
        e.edge("a 5th digit of 1600", () -> e.fault(1, "9999^9" + "9".repeat(1595)));
    }

    private void ownWordForAName() {
        e.says("an OWN WORD where a NAME must be);");
        e.edge("of a THING", () -> e.fault(1, "thing ^calm worth 1 rhymes 1;"));
        e.edge("of a WISH", () -> e.fault(1, A + "wish ^worth words 1 gives a;"));
        e.edge("given", () -> e.fault(1, A + "wish w words 1 gives ^needs a;"));
        e.edge("needed", () -> e.fault(1, A + "wish w words 1 gives a needs ^uses a;"));
        e.edge("used", () -> e.fault(1, A + B + "wish w words 1 gives a uses ^brief;"));
        e.edge("had at first", () -> e.fault(1, A + "first ^all;"));
        e.edge("needed as the second one", () -> e.fault(1, A + B + "wish w words 1 gives a needs b ^had;"));
    }

    private void nameThere() {
        e.says("2 a NAME to be given that is there already, at its first byte;");
        e.edge("a THING again", () -> e.fault(2, A + "thing ^a"));
        e.edge("a WISH again", () -> e.fault(2, A + W + "wish ^w"));
        e.edge("a WISH with a THING's", () -> e.fault(2, A + "wish ^a"));
        e.edge("a THING with a WISH's", () -> e.fault(2, A + W + "thing ^w"));
        e.edge("the last of ten THINGS", () -> e.fault(2, Shores.things(10) + "wish ^j"));
        e.edge("the last of twelve WISHES", () -> e.fault(2, A + Shores.wishes(12, 1) + "thing ^wl"));
        e.edge("6 letters", () -> e.fault(2, "thing abcdef worth 1 rhymes 1;thing ^abcdef"));
        e.edge("6 letters, and a 7th", () -> e.fault(1, "thing abcdef worth 1 rhymes 1;thing abcdef^g"));
        e.edge("with no blank behind it", () -> e.fault(2, A + "thing ^a5"));
    }

    private void noneOfWhatIsAsked() {
        e.says("3 a NAME that is none of what is asked, or a THING that can't be (told in that row already, used though it is "
                + "given, had at first already), at its first byte;");
        e.edge("none is given", () -> e.fault(3, A + "wish w words 1 gives ^b"));
        e.edge("none is needed", () -> e.fault(3, A + "wish w words 1 gives a needs ^b"));
        e.edge("none is needed as the second one", () -> e.fault(3, A + "wish w words 1 gives a needs a ^b"));
        e.edge("none is used", () -> e.fault(3, A + "wish w words 1 gives a uses ^b"));
        e.edge("none is used as the second one", () -> e.fault(3, A + B + "wish w words 1 gives a uses b ^c"));
        e.edge("none is had at first", () -> e.fault(3, A + "first ^b"));
        e.edge("a WISH is given", () -> e.fault(3, A + W + "wish v words 1 gives ^w"));
        e.edge("itself is needed", () -> e.fault(3, A + "wish w words 1 gives a needs ^w"));
        e.edge("a WISH is had at first", () -> e.fault(3, A + W + "first ^w"));
        e.edge("told in needs already, at once", () -> e.fault(3, A + "wish w words 1 gives a needs a ^a"));
        e.edge("told in uses already, at once", () -> e.fault(3, A + B + "wish w words 1 gives a uses b ^b"));
        e.edge("told in needs already, the first of ten", () ->
                e.fault(3, Shores.things(10) + "wish w words 1 gives a needs" + Shores.names(0, 10) + " ^a"));
        e.edge("used though it is given", () -> e.fault(3, A + B + "wish w words 1 gives b uses ^b"));
        e.edge("used though it is given, behind another one", () -> e.fault(3, A + B + "wish w words 1 gives b uses a ^b"));
        e.edge("had at first already", () -> e.fault(3, A + "first a;first ^a"));
        e.edge("used, given by another WISH", () -> e.fine(4, A + B + W + "wish v words 1 gives b uses a;"));
        e.edge("told in the row of another WISH", () -> e.fine(4, A + B + "wish w words 1 gives a needs b;"
                + "wish v words 1 gives a needs b;"));
    }

    private void numberThatCanNotBe() {
        e.says("4 a NUMBER that can't be, at its first byte;");
        e.edge("worth", () -> e.fault(4, "thing a worth ^0100"));
        e.edge("rhymes, too small", () -> e.fault(4, "thing a worth 1 rhymes ^0000"));
        e.edge("rhymes, too large", () -> e.fault(4, "thing a worth 1 rhymes ^0010"));
        e.edge("words", () -> e.fault(4, A + "wish w words ^0010"));
        e.edge("bears, too small", () -> e.fault(4, "bears ^0000"));
        e.edge("bears, too large", () -> e.fault(4, "bears ^1000"));
        e.edge("calm", () -> e.fault(4, "calm ^1000"));
        e.edge("none in a SUM", () -> e.fine(3, "dark 9999;room 0;content 9999>0;"));
    }

    private void openAtOnce() {
        e.says("5 the 8th ( [ not that is open at once (not until its FACT ends), at it;");
        e.edge("7 (", () -> e.fine(1, "dark (((((((1)))))));"));
        e.edge("8 (", () -> e.fault(5, "dark (((((((^(1))))))));"));
        e.edge("7 [", () -> e.fine(1, "content [[[[[[[all]]]]]]];"));
        e.edge("8 [", () -> e.fault(5, "content [[[[[[[^[all]]]]]]]];"));
        e.edge("7 not", () -> e.fine(1, "content not not not not not not not all;"));
        e.edge("8 not", () -> e.fault(5, "content not not not not not not not ^not all;"));
        e.edge("7 of min", () -> e.fine(1, "dark min(1,min(1,min(1,min(1,min(1,min(1,min(1,2)))))));"));
        e.edge("8 of min", () -> e.fault(5, "dark min(1,min(1,min(1,min(1,min(1,min(1,min(1,min^(1,2))))))));"));
        e.edge("8 of max, in its first SUM", () -> e.fault(5, "dark max(max(max(max(max(max(max(max^(1,2"));
        e.edge("7 of all sorts", () -> e.fine(1, "content not [not [not (1+max(1,2))=1]];"));
        e.edge("8 of all sorts, (", () -> e.fault(5, "content not [not [not (1+max(1,^(2)"));
        e.edge("8 of all sorts, [", () -> e.fault(5, "content not [not [not [not ^[all"));
        e.edge("8 of all sorts, not", () -> e.fault(5, "content [not [not [not [^not all"));
        e.edge("closed ones: (", () -> e.fine(1, "dark (((((((1)))))))+(((((((2)))))))*(((((((3)))))));"));
        e.edge("closed ones: [", () -> e.fine(1, "content [[[[[[[all]]]]]]]and[[[[[[[all]]]]]]]or[[[[[[[all]]]]]]];"));
        e.edge("closed ones: min", () -> e.fine(1, "dark " + "min(1,2)+".repeat(20) + "(((((((1)))))));"));
        e.edge("7 not, ended by all", () -> e.fine(1, "content not not not not not not not all and [[[[[[[all]]]]]]];"));
        e.edge("7 not, ended by a SUM", () -> e.fine(1, "content not not not not not not not 1=1 or not not not not not not not 1=1;"));
        e.edge("not, ended by ]", () -> e.fine(1, "content not [all] and [[[[[[[all]]]]]]];"));
        e.edge("not within [ ], ended ahead of and", () -> e.fine(1, "content [not all and [[[[[[all]]]]]]];"));
        e.edge("not, open in its first SUM", () -> e.fault(5, "content not ((((((^(1))))))) = 1;"));
        e.edge("not, open in its second SUM", () -> e.fault(5, "content not 1 = ((((((^(1)))))));"));
        e.edge("6 in the second SUM of a not", () -> e.fine(1, "content not 1 = ((((((1))))));"));
        e.edge("not, open in its [ ]", () -> e.fault(5, "content not [[[[[[^[all"));
        e.edge("a ( that can't stand there", () -> e.fault(1, "content [[[[[[[all ^("));
        e.edge("a [ that can't stand there", () -> e.fault(1, "dark (((((((^["));
        e.edge("a not that can't stand there", () -> e.fault(1, "dark (((((((^not"));
        e.edge("the next STATEMENT begins with none open", () -> e.fine(2, "dark (((((((1)))))));room (((((((1)))))));"));
        e.edge("the next text begins with none open", () -> {
            WishSea x = new WishSea();
            e.due("refused", Checks.shore(x, "dark (((((((1"), -1);
            e.due("fine", Checks.shore(x, "dark (((((((1)))))));"), 1);
        });
    }

    private void oneTooManyOfAKind() {
        e.says("6 one too many of a kind of STATEMENT (a second dark, room, content, too), or the 81st STATEMENT (whatever it is), "
                + "at its first byte.");
        e.edge("an 11th THING", () -> e.fault(6, Shores.things(10) + " \n^thing"));
        e.edge("a 13th WISH", () -> e.fault(6, A + Shores.wishes(12, 1) + " \n^wish"));
        e.edge("an 11th THING behind a refused text of ten", () -> {
            WishSea x = new WishSea();
            e.due("refused", Checks.shore(x, Shores.things(10) + "calm"), -1);
            e.due("fine", Checks.shore(x, Shores.things(10)), 10);
        });
        e.edge("a second dark", () -> e.fault(6, "dark 1; ^dark"));
        e.edge("a second room", () -> e.fault(6, "room 1; ^room"));
        e.edge("a second content", () -> e.fault(6, "content all; ^content"));
        e.edge("a second dark where the first one is 0", () -> e.fault(6, "dark 0;^dark"));
        e.edge("a dark of the SHORE before", () -> {
            WishSea x = Checks.with("dark 1;room 1;content all;");
            e.due("fine", Checks.shore(x, "dark 1;room 1;content all;"), 3);
            e.due("refused", Checks.shore(x, "dark 1;room 1;content all;calm"), -1);
            e.due("fine", Checks.shore(x, "dark 1;room 1;content all;"), 3);
        });
        e.edge("10 first", () -> e.fine(20, Shores.things(10) + Shores.firsts(10)));
        for (String kind : new String[] {"thing", "wish", "first", "dark", "room", "content", "bears", "calm"}) {
            e.edge("the 81st, " + kind, () -> e.fault(6, "calm 1;".repeat(80) + " ^" + kind));
        }
        e.edge("the 80th, with a FAULT", () -> e.fault(4, "calm 1;".repeat(79) + "bears ^0;bears 0;"));
        e.edge("80 STATEMENTS behind 80 refused ones", () -> {
            WishSea x = new WishSea();
            e.due("refused", Checks.shore(x, "calm 1;".repeat(81)), -1);
            e.due("fine", Checks.shore(x, "calm 1;".repeat(80)), 80);
        });
    }

    private void newObject() {
        e.promise(1, "WishSea()");
        e.says("No THINGS, no WISHES; the seed is 1.");
        e.edge("no THINGS", () -> {
            WishSea x = new WishSea();
            e.due("has(0)", x.has(0), 0);
            e.due("has(2)", x.has(2), 0);
            e.due("thing(0, 0)", x.thing(0, 0), -1);
        });
        e.edge("no WISHES", () -> {
            WishSea x = new WishSea();
            e.due("has(1)", x.has(1), 0);
            e.due("wish(0, 0)", x.wish(0, 0), -1);
            e.due("say(0)", x.say(0), -1);
        });
        e.edge("seed 1", () -> e.due("has(13)", new WishSea().has(13), 1));
        e.edge("no STATEMENT counts", () -> {
            WishSea x = new WishSea();
            e.due("room", x.has(7), 99);
            e.due("content", x.has(8), 0);
            e.due("bears", x.has(9), 100);
            e.due("calm", x.has(10), 0);
        });
        e.edge("two objects are none of each other's", () -> {
            WishSea x = Checks.with(A);
            WishSea y = new WishSea();
            y.seed(5);
            e.due("x", x.has(0) * 10 + x.has(13), 11);
            e.due("y", y.has(0) * 10 + y.has(13), 5);
        });
    }

    private void feeding() {
        e.promise(2, "int feed(int a, int b, int c, int d, int e)");
        e.says("Twenty bytes come behind those on the tape, of each number the highest first: how many there are;");
        e.edge("on an empty tape", () -> e.due("feed", new WishSea().feed(0, 0, 0, 0, 0), 20));
        e.edge("behind one byte", () -> {
            WishSea x = new WishSea();
            x.feed(0, 0, 0, 0, 0);
            x.end(1);
            e.due("feed", x.feed(0, 0, 0, 0, 0), 21);
        });
        e.edge("the highest first, below 0, too", () -> {
            WishSea x = new WishSea();
            // Two falls: 255, 255, 1 and 0, 7, 0.
            x.feed(0xffff0100, 0x07000000, 0, 0, 0);
            x.end(6);
            e.due("falls", x.falls(), 2);
            e.due("least", x.bears(1), 7);
            e.due("greatest", x.bears(2), 999);
        });
        e.edge("all twenty in their order", () -> {
            WishSea x = new WishSea();
            x.feed(0x63616c6d, 0x20313233, 0x3b626561, 0x72732032, 0x31343b20);
            e.due("shore", x.shore(), 2);
            e.due("calm", x.has(10), 123);
            e.due("bears", x.has(9), 214);
        });
        e.says("NONE, refused (0), if there would be more than 1600.");
        e.edge("1600", () -> {
            WishSea x = full();
            e.due("status(0)", x.status(0), 0);
            e.due("end(1600)", x.end(1600), true);
        });
        e.edge("1620", () -> {
            WishSea x = full();
            e.due("feed", x.feed(0, 0, 0, 0, 0), -1);
            e.due("status(0)", x.status(0), 1);
            e.due("no more bytes", x.end(1601), false);
        });
        e.edge("1601", () -> {
            WishSea x = full();
            x.end(1581);
            e.due("feed", x.feed(0, 0, 0, 0, 0), -1);
            e.due("status(0)", x.status(0), 1);
            e.due("all stay", x.end(1581), true);
        });
        e.edge("1600 from 1580", () -> {
            WishSea x = full();
            x.end(1580);
            e.due("feed", x.feed(0, 0, 0, 0, 0), 1600);
        });
        e.edge("a refused one leaves the bytes", () -> {
            WishSea x = new WishSea();
            Checks.put(x, Checks.bytesOf("calm 7;" + " ".repeat(1593)));
            e.due("feed", x.feed(0, 0, 0, 0, 0), -1);
            e.due("shore", x.shore(), 1);
            e.due("calm", x.has(10), 7);
        });
        e.edge("room again when the tape has gone", () -> {
            WishSea x = full();
            x.shore();
            e.due("feed", x.feed(0, 0, 0, 0, 0), 20);
        });
    }

    private static WishSea full() {
        WishSea x = new WishSea();
        for (int i = 0; i < 80; i++) {
            x.feed(0, 0, 0, 0, 0);
        }
        return x;
    }

    private void ending() {
        e.promise(3, "boolean end(int n)");
        e.says("The tape has its first n bytes alone: true;");
        e.edge("0 of none", () -> e.due("end", new WishSea().end(0), true));
        e.edge("0 of twenty", () -> {
            WishSea x = new WishSea();
            x.feed(0, 0, 0, 0, 0);
            e.due("end", x.end(0), true);
            e.due("shore of none", x.shore(), 0);
        });
        e.edge("all of twenty", () -> {
            WishSea x = new WishSea();
            x.feed(0, 0, 0, 0, 0);
            e.due("end", x.end(20), true);
            e.due("feed", x.feed(0, 0, 0, 0, 0), 40);
        });
        e.edge("the first ones, not the last ones", () -> {
            WishSea x = new WishSea();
            Checks.put(x, Checks.bytesOf("calm 7;calm 8;calm 9;"));
            e.due("end", x.end(14), true);
            e.due("shore", x.shore(), 2);
            e.due("calm", x.has(10), 8);
        });
        e.edge("what was cut off is gone", () -> {
            WishSea x = new WishSea();
            Checks.put(x, Checks.bytesOf("calm 7;"));
            x.end(6);
            x.end(0);
            e.due("end", x.end(1), false);
        });
        e.says("false, refused (0), if it has not so many, or n is below 0.");
        e.edge("1 of none", () -> refusedEnd(0, 1));
        e.edge("21 of twenty", () -> refusedEnd(20, 21));
        e.edge("-1", () -> refusedEnd(20, -1));
        e.edge("the greatest number", () -> refusedEnd(20, Shores.MAX));
        e.edge("the least number", () -> refusedEnd(20, Shores.MIN));
        e.edge("1601", () -> {
            WishSea x = full();
            e.due("end", x.end(1601), false);
        });
        e.edge("when the tape has gone", () -> {
            WishSea x = new WishSea();
            x.feed(0, 0, 0, 0, 0);
            x.shore();
            e.due("end", x.end(1), false);
            e.due("status(0)", x.status(0), 1);
        });
    }

    private void refusedEnd(int bytes, int n) {
        WishSea x = new WishSea();
        if (bytes > 0) {
            x.feed(0, 0, 0, 0, 0);
        }
        e.due("end", x.end(n), false);
        e.due("status(0)", x.status(0), 1);
        e.due("the tape stays", x.feed(0, 0, 0, 0, 0), bytes + 20);
    }

    private void readingAShore() {
        e.promise(4, "int shore()");
        e.says("The tape (it goes, refused or not) is THE SHORE: how many STATEMENTS;");
        e.edge("an empty tape", () -> e.due("shore", new WishSea().shore(), 0));
        e.edge("a full tape", () -> {
            WishSea x = new WishSea();
            e.due("shore", Checks.shore(x, "calm 7;" + " ".repeat(1586) + "calm 8;"), 2);
            e.due("calm", x.has(10), 8);
        });
        e.edge("it goes", () -> {
            WishSea x = new WishSea();
            e.due("shore", Checks.shore(x, "calm 7;"), 1);
            e.due("gone", x.end(1), false);
            e.due("shore of none", x.shore(), 0);
            e.due("calm", x.has(10), 0);
        });
        e.edge("it goes when refused", () -> {
            WishSea x = new WishSea();
            e.due("shore", Checks.shore(x, "calm 7"), -1);
            e.due("gone", x.end(1), false);
        });
        e.says("NONE, refused (1), with a FAULT (all stays).");
        e.edge("refused", () -> {
            WishSea x = new WishSea();
            e.due("shore", Checks.shore(x, "calm"), -1);
            e.due("status(1)", x.status(1), 1);
        });
        e.edge("a FAULT in the last STATEMENT: what it told stays", this::allStays);
        e.edge("ROWS, stops and FALLS stay", () -> {
            WishSea x = Checks.with(A + W + "dark 3;");
            Checks.row(x, 0);
            Checks.stop(x, 0);
            Checks.falls(x, 0, 9, 0);
            e.due("refused", Checks.shore(x, "calm"), -1);
            e.due("went", x.went(1), 1);
            e.due("value", x.value(1), 997);
            e.due("bears", x.bears(1), 9);
        });
        e.edge("a refused text over and over", () -> {
            WishSea x = Checks.with(A + W + "dark 3;calm 2;");
            for (int i = 0; i < 5; i++) {
                e.due("refused", Checks.shore(x, "thing q worth 9 rhymes 9;dark 9;calm 9;bears"), -1);
                e.due("worth of a", x.thing(0, 0), 1);
                e.due("dark", x.wish(0, 6), 3);
                e.due("calm", x.has(10), 2);
            }
        });
        e.says("Without one all is as at first, no FALLS are told, nothing is KEPT, no ACT can be undone; the seed stays.");
        e.edge("all is as at first", () -> {
            WishSea x = used();
            int[] has = {2, 1, 2, 1, 0, 0, 0, 99, 0, 100, 0};
            for (int what = 0; what < has.length; what++) {
                e.due("has " + what, x.has(what), has[what]);
            }
        });
        e.edge("no FALLS", () -> e.due("bears", used().bears(0), 999));
        e.edge("nothing KEPT", () -> {
            WishSea x = used();
            e.due("has(11)", x.has(11), 0);
            e.due("kept", x.kept(0, 0), -1);
            e.due("wish", x.wish(0, 7), 0);
        });
        e.edge("no ACT", () -> {
            WishSea x = used();
            e.due("has(12)", x.has(12), 0);
            e.due("undo", x.undo(), false);
        });
        e.edge("the seed stays", () -> e.due("has(13)", used().has(13), 77));
        e.edge("of no STATEMENT", () -> {
            WishSea x = used();
            e.due("shore", x.shore(), 0);
            e.due("THINGS and WISHES", x.has(0) + x.has(1) + x.has(2) + x.has(3), 0);
        });
        e.edge("nothing of any SHORE before is left", () -> {
            WishSea x = new WishSea();
            for (int i = 0; i < 4; i++) {
                Checks.shore(x, "thing a worth 9 rhymes 9 brief;first a;wish w words 9 gives a;dark 9;room 9;content 1=1;bears 9;calm 9;");
                Checks.shore(x, i % 2 == 0 ? A + W : "calm");
                e.due("shore", Checks.shore(x, A + W), 2);
                int[] has = {1, 1, 0, 0, 0, 0, 0, 99, 0, 100, 0};
                for (int what = 0; what < has.length; what++) {
                    e.due("has " + what, x.has(what), has[what]);
                }
                e.due("brief", x.thing(0, 2), 0);
                e.due("rhyme", x.thing(0, 1), 1);
                e.due("dark", x.wish(0, 6), 0);
                e.due("words", x.wish(0, 3), 1);
            }
        });
        e.edge("a full tape's SUM, over and over", () -> {
            WishSea x = new WishSea();
            for (int i = 0; i < 8; i++) {
                e.due("shore", Checks.shore(x, "room 7" + "+1-1".repeat(398) + ";"), 1);
                e.due("room", x.has(7), 7);
            }
        });
        e.edge("refusals stay", () -> {
            WishSea x = new WishSea();
            x.undo();
            e.due("shore", Checks.shore(x, A), 1);
            e.due("status(4)", x.status(4), 1);
        });
    }

    private void allStays() {
        WishSea x = Checks.with(A + W + "dark 3;calm 2;bears 50;room 20;");
        x.seed(9);
        x.say(0);
        x.night();
        e.due("refused", Checks.shore(x, Shores.things(10) + Shores.firsts(10) + "dark 7;room 7;content all;bears 7;calm 1000;"), -1);
        int[] has = {1, 1, 1, 1, 1, 0, 1, 20, 0, 50, 2, 1, 2, 9};
        for (int what = 0; what < has.length; what++) {
            e.due("has " + what, x.has(what), has[what]);
        }
        e.due("undo", x.undo(), true);
        e.due("kept", x.kept(0, 2), 3);
        e.due("rhyme", x.thing(0, 1), 1);
        e.due("letter", x.letter(1, 0, 0), 23);
    }

    /** One SHORE, used, and then another one. */
    private static WishSea used() {
        WishSea x = Checks.with(A + B + W + "first a;dark 5;room 9;content day=3;bears 50;calm 2;wish v words 1 gives b;");
        x.seed(77);
        x.say(1);
        x.night();
        Checks.falls(x, 0, 9, 0);
        Checks.shore(x, A + B + W + "first b;");
        return x;
    }

    private void askingForTheFault() {
        e.promise(5, "int fault(int what)");
        e.says("Of the latest shore(): its FAULT (what 0; 0 without, and ahead of any), its place (1; NONE without).");
        e.edge("ahead of any", () -> {
            e.due("fault(0)", new WishSea().fault(0), 0);
            e.due("fault(1)", new WishSea().fault(1), -1);
        });
        e.edge("place 0", () -> e.fault(1, "^;"));
        e.edge("the latest: a FAULT behind a fine one", () -> {
            WishSea x = Checks.with("calm 5;");
            Checks.shore(x, "calm 1000;");
            e.due("fault(0)", x.fault(0), 4);
            e.due("fault(1)", x.fault(1), 5);
        });
        e.edge("the latest: a fine one behind a FAULT", () -> {
            WishSea x = new WishSea();
            Checks.shore(x, "calm 1000;");
            Checks.shore(x, "calm 5;");
            e.due("fault(0)", x.fault(0), 0);
            e.due("fault(1)", x.fault(1), -1);
        });
        e.edge("the latest: a FAULT behind a FAULT", () -> {
            WishSea x = new WishSea();
            Checks.shore(x, "calm 1000;");
            Checks.shore(x, "first a;");
            e.due("fault(0)", x.fault(0), 3);
            e.due("fault(1)", x.fault(1), 6);
        });
        e.edge("other refused calls have no FAULT", () -> {
            WishSea x = new WishSea();
            Checks.shore(x, "calm 1000;");
            x.end(-1);
            Checks.row(x, 5);
            x.falls();
            x.say(0);
            e.due("fault(0)", x.fault(0), 4);
            e.due("fault(1)", x.fault(1), 5);
        });
        e.says("NONE for another what.");
        e.edge("-1", () -> e.due("fault", Checks.with("calm 5;").fault(-1), -1));
        e.edge("2", () -> e.due("fault", Checks.with("calm 5;").fault(2), -1));
        e.edge("2, with a FAULT", () -> {
            WishSea x = new WishSea();
            Checks.shore(x, "calm 1000;");
            e.due("fault", x.fault(2), -1);
            e.due("fault", x.fault(-1), -1);
        });
        e.edge("far ones", () -> {
            for (int what : Shores.FAR) {
                e.due("fault " + what, new WishSea().fault(what), -1);
            }
        });
    }

    private void askingForLetters() {
        WishSea x = Checks.with("thing azazaz worth 1 rhymes 1;" + "thing z worth 1 rhymes 1;" + "wish zzzzzz words 1 gives z;"
                + "wish b words 1 gives z;");
        e.promise(7, "int letter(int kind, int which, int k)");
        e.says("Letter k (0 .. 5) of the NAME of a THING (kind 0), a WISH (1): 1 .. 26;");
        e.edge("k 0", () -> e.due("letter", x.letter(0, 0, 0), 1));
        e.edge("k 5", () -> e.due("letter", x.letter(0, 0, 5), 26));
        e.edge("k 5 of the greatest NAME", () -> e.due("letter", x.letter(1, 0, 5), 26));
        e.edge("k 0 of the greatest NAME", () -> e.due("letter", x.letter(1, 0, 0), 26));
        e.edge("the last THING", () -> e.due("letter", x.letter(0, 1, 0), 26));
        e.edge("the last WISH", () -> e.due("letter", x.letter(1, 1, 0), 2));
        e.edge("the tenth THING", () -> e.due("letter", Checks.with(Shores.things(10)).letter(0, 9, 0), 10));
        e.edge("the twelfth WISH", () -> e.due("letter", Checks.with(A + Shores.wishes(12, 1)).letter(1, 11, 1), 12));
        e.says("0 behind it;");
        e.edge("just behind it", () -> e.due("letter", x.letter(0, 1, 1), 0));
        e.edge("far behind it", () -> e.due("letter", x.letter(1, 1, 5), 0));
        e.edge("just behind five letters", () -> e.due("letter", Checks.with("thing zzzzz worth 1 rhymes 1;").letter(0, 0, 5), 0));
        e.says("NONE when there is none such.");
        e.edge("k -1", () -> e.due("letter", x.letter(0, 0, -1), -1));
        e.edge("k 6", () -> e.due("letter", x.letter(0, 0, 6), -1));
        e.edge("kind -1", () -> e.due("letter", x.letter(-1, 0, 0), -1));
        e.edge("kind 2", () -> e.due("letter", x.letter(2, 0, 0), -1));
        e.edge("THING -1", () -> e.due("letter", x.letter(0, -1, 0), -1));
        e.edge("THING 2 of two", () -> e.due("letter", x.letter(0, 2, 0), -1));
        e.edge("WISH -1", () -> e.due("letter", x.letter(1, -1, 0), -1));
        e.edge("WISH 2 of two", () -> e.due("letter", x.letter(1, 2, 0), -1));
        e.edge("THING 0 of none", () -> e.due("letter", new WishSea().letter(0, 0, 0), -1));
        e.edge("THING 10 of ten", () -> e.due("letter", Checks.with(Shores.things(10)).letter(0, 10, 0), -1));
        e.edge("WISH 12 of twelve", () -> e.due("letter", Checks.with(A + Shores.wishes(12, 1)).letter(1, 12, 0), -1));
        e.edge("far ones", () -> {
            for (int far : Shores.FAR) {
                e.due("kind " + far, x.letter(far, 0, 0), -1);
                e.due("which " + far, x.letter(0, far, 0), -1);
                e.due("k " + far, x.letter(0, 0, far), -1);
            }
        });
    }
}
