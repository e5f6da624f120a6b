/** Promises 1 to 5 and 7: a new object, the tape, the text and its FAULTS, the letters of NAMES. */
public final class TextTest {
    private static final Checks C = new Checks();
    private static final String A = "thing a worth 1 rhymes 1;";

    public static void main(String[] args) {
        newObject();
        tape();
        fineTexts();
        syntax();
        wordsAndNumbers();
        names();
        numbers();
        depth();
        tooMany();
        refusedTextLeavesAll();
        letters();
        oneTextBehindTheOther();
        C.end();
    }

    private static void newObject() {
        WishSea x = new WishSea();
        C.says("No THINGS, no WISHES; the seed is 1.");
        int[] has = {0, 0, 0, 0, 0, 0, 0, 99, 0, 100, 0, 0, 0, 1};
        for (int what = 0; what < has.length; what++) {
            C.due("new has " + what, x.has(what), has[what]);
        }
        C.says("Of the latest shore(): its FAULT (what 0; 0 without, and ahead of any), its place (1; NONE without). NONE "
                + "for another what.");
        C.due("new fault 0", x.fault(0), 0);
        C.due("new fault 1", x.fault(1), -1);
        C.says("NONE ahead of any, or for others.");
        C.due("new went", x.went(0), -1);
        C.says("VALUE of k WISHES (0 .. as many as there were); NONE when there is none such.");
        C.due("new value", x.value(0), -1);
        C.says("Byte k of the latest image(); NONE when there is none such.");
        C.due("new octet", x.octet(0), -1);
        C.says("NONE for another what.");
        C.due("fault 2", x.fault(2), -1);
        C.due("fault -1", x.fault(-1), -1);
        C.says("The tape (it goes, refused or not) is THE SHORE: how many STATEMENTS;");
        C.due("empty shore", x.shore(), 0);
        C.says("the seed stays.");
        C.due("new seed stays", x.has(13), 1);
    }

    private static void tape() {
        WishSea x = new WishSea();
        C.says("Twenty bytes come behind those on the tape, of each number the highest first: how many there are; NONE, "
                + "refused (0), if there would be more than 1600.");
        for (int i = 1; i <= 80; i++) {
            C.due("feed " + i, x.feed(0, 0, 0, 0, i), 20 * i);
        }
        C.due("feed 81", x.feed(0, 0, 0, 0, 0), -1);
        C.due("status 0", x.status(0), 1);
        C.says("The tape has its first n bytes alone: true; false, refused (0), if it has not so many, or n is below 0.");
        C.due("end 1601", x.end(1601), false);
        C.due("end -1", x.end(-1), false);
        C.due("status 0", x.status(0), 3);
        C.due("end 1600", x.end(1600), true);
        C.due("end 1581", x.end(1581), true);
        C.says("NONE, refused (0), if there would be more than 1600.");
        C.due("feed at 1581", x.feed(0, 0, 0, 0, 0), -1);
        C.due("end 1580", x.end(1580), true);
        C.due("feed at 1580", x.feed(0, 0, 0, 0, 0), 1600);
        C.says("false, refused (0), if it has not so many, or n is below 0.");
        C.due("end 0", x.end(0), true);
        C.due("end 1", x.end(1), false);
        // "calm 7;calm 9;" with the highest byte of each number first, negative numbers too.
        C.says("Twenty bytes come behind those on the tape, of each number the highest first:");
        x.feed(0x63616c6d, 0x20373b63, 0x616c6d20, 0x393bff80, -1);
        x.end(14);
        C.due("statements", x.shore(), 2);
        C.due("calm", x.has(10), 9);
        C.says("1 the first byte with which no SHORE goes on");
        x.feed(0x63616c6d, 0x20373bff, 0, 0, 0);
        x.end(8);
        C.due("byte 255", x.shore(), -1);
        C.due("byte 255 at", x.fault(1), 7);
        C.says("The tape (it goes, refused or not) is THE SHORE:");
        C.due("the tape is gone", x.end(1), false);
    }

    private static void fineTexts() {
        C.says("I. A SHORE is a text: { STATEMENT ; } (80 at most):");
        C.fine("", 0);
        C.fine(" \n ", 0);
        C.fine("bears 1;bears 999;calm 0;calm 999;", 4);
        C.says("Blanks (10, 32) are where one likes (words and numbers side by side need one).");
        C.fine("\nthing\na\nworth 00 rhymes 0009\nbrief\n;\n", 1);
        C.says("then needs NAME { NAME } if it needs some, then uses NAME { NAME } if it uses some up");
        C.fine(A + "wish b words 0 gives a needs a;", 2);
        C.fine(A + "thing b worth 99 rhymes 9;wish c words 9 gives a needs a b uses b;first b;first a;", 5);
        C.says("PART: N; worth; had; sea; said; day; words; rhymes; ( SUM ) ; min ( SUM , SUM ) ; max ( SUM , SUM ) .");
        C.fine("dark 0+1-2*3/4%5+worth+had+sea+said+day+words+rhymes;", 1);
        C.fine("room min(1,max(2,(3)))-min ( 4 , 5 );", 1);
        C.says("TEST: BOTH { or BOTH }. BOTH: FACT { and FACT }. FACT: not FACT; [ TEST ] ; all; SUM SIGN SUM, SIGN < or "
                + "> or = .");
        C.fine("content not[all or 1<2 and 3>4]or all and not not 5=6;", 1);
        C.says("5 the 8th ( [ not that is open at once (not until its FACT ends), at it;");
        C.fine("content[[[[[[not all]]]]]];dark ((((((sea)))))); room min(1,(2))+min(3,(4));", 3);
        C.says("NUMBERS: 1 to 4 digits.");
        C.fine("dark 9999;", 1);
        C.says("NAMES: 1 to 6 letters, unlike ones (of all sorts), told ahead of where they are asked.");
        C.fine("thing abcdef worth 1 rhymes 1;thing brie worth 1 rhymes 1;thing things worth 1 rhymes 1;", 3);
        C.says("A SHORE is a text: { STATEMENT ; } (80 at most):");
        C.fine("bears 5;".repeat(80), 80);
    }

    private static void syntax() {
        C.says("at the text's length, if it ends too soon;");
        C.fault("thing", 1, 5);
        C.fault("thing a worth 1 rhymes 1", 1, 24);
        C.fault("thing a worth 1 rhymes 1 \n ", 1, 27);
        C.says("1 the first byte with which no SHORE goes on (words and numbers whole, at their first byte;");
        C.fault(";", 1, 0);
        C.fault("calm 1;;", 1, 7);
        C.fault("thi", 1, 0);
        C.fault(" worth", 1, 1);
        C.fault("5;", 1, 0);
        C.fault("calm 1;\t", 1, 7);
        C.fault("Calm 1;", 1, 0);
        C.fault("calM 1;", 1, 0);
        C.fault("calm x;", 1, 5);
        C.fault("thing 5", 1, 6);
        C.says("thing NAME worth N rhymes N (0 .. 99, 1 .. 9; 10 THINGS) and brief behind it if it is gone when a DAY ends;");
        C.fault("thing a rhymes 1", 1, 8);
        C.fault("thing a worth 1 brief", 1, 16);
        C.says("then needs NAME { NAME } if it needs some, then uses NAME { NAME } if it uses some up");
        C.fault(A + "wish b words 1 gives a uses", 1, 52);
        C.fault(A + "wish b words 1 gives a needs uses", 1, 54);
        C.fault(A + "thing b worth 1 rhymes 1;wish c words 1 gives a uses b needs b;", 1, 80);
        C.says("first NAME (a THING that one has at first; not told already);");
        C.fault(A + "first a a;", 1, 33);
        C.says("SUM: PRODUCT { + or - PRODUCT }. PRODUCT: PART { * or / or % PART }. PART: N; worth; had; sea; said; day; "
                + "words; rhymes; ( SUM ) ; min ( SUM , SUM ) ; max ( SUM , SUM ) .");
        C.fault("dark ;", 1, 5);
        C.fault("dark -1;", 1, 5);
        C.fault("dark 1+;", 1, 7);
        C.fault("dark (1;", 1, 7);
        C.fault("dark 1);", 1, 6);
        C.fault("dark [1];", 1, 5);
        C.fault("dark min 1;", 1, 9);
        C.fault("dark min(1);", 1, 10);
        C.fault("dark max(1,2;", 1, 12);
        C.fault("dark all;", 1, 5);
        C.fault("dark 1<2;", 1, 6);
        C.fault("dark a;", 1, 5);
        C.says("TEST: BOTH { or BOTH }. BOTH: FACT { and FACT }. FACT: not FACT; [ TEST ] ; all; SUM SIGN SUM, SIGN < or "
                + "> or = .");
        C.fault("content 1;", 1, 9);
        C.fault("content (1=1);", 1, 10);
        C.fault("content [1=1;", 1, 12);
        C.fault("content 1<2<3;", 1, 11);
        C.fault("content or all;", 1, 8);
        C.fault("content all all;", 1, 12);
        C.fault("content all or;", 1, 14);
        C.fault("content not;", 1, 11);
        C.says("1 the first byte with which no SHORE goes on");
        C.fault("dark 1 & 2;", 1, 7);
    }

    private static void wordsAndNumbers() {
        C.says("(words and numbers side by side need one)");
        C.fault("bears5;", 1, 5);
        C.fault("bears0;", 1, 5);
        C.fault("thing a5 worth", 1, 7);
        C.fault("thing a worth 1rhymes 1;", 1, 15);
        C.fault("content 1=1or all;", 1, 11);
        C.says("a 7th letter of what is no OWN WORD, a 5th digit at itself, whatever may stand there;");
        C.fault("thing abcdefg worth", 1, 12);
        C.fault("thing contents worth", 1, 12);
        C.fault("abcdefgh", 1, 6);
        C.fault("calm abcdefg;", 1, 11);
        C.fault("calm 12345;", 1, 9);
        C.fault("calm 00001;", 1, 9);
        C.fault("thing 12345", 1, 10);
        C.fault("12345", 1, 4);
        C.fault("dark 99999;", 1, 9);
        C.says("an OWN WORD where a NAME must be);");
        C.fault("thing content worth", 1, 6);
        C.fault("wish calm words", 1, 5);
        C.fault("first max;", 1, 6);
        C.fault(A + "wish b words 1 gives all", 1, 46);
    }

    private static void names() {
        C.says("2 a NAME to be given that is there already, at its first byte;");
        C.fault(A + "thing a worth", 2, 31);
        C.fault(A + "wish a words", 2, 30);
        C.fault(A + "wish b words 1 gives a;thing b", 2, 54);
        C.fault(A + "wish b words 1 gives a;wish b", 2, 53);
        C.says("3 a NAME that is none of what is asked, or a THING that can't be (told in that row already, used though "
                + "it is given, had at first already), at its first byte;");
        C.fault(A + "wish b words 1 gives b;", 3, 46);
        C.fault(A + "wish b words 1 gives c;", 3, 46);
        C.fault(A + "wish b words 1 gives a needs c", 3, 54);
        C.fault(A + "wish b words 1 gives a needs a a", 3, 56);
        C.fault(A + "wish b words 1 gives a uses a", 3, 53);
        C.fault(A + "thing c worth 1 rhymes 1;wish b words 1 gives a needs a uses c c;", 3, 88);
        C.fault("first a;" + A, 3, 6);
        C.fault(A + "first a;first a;", 3, 39);
        C.fault(A + "wish b words 1 gives a;first b", 3, 54);
        // A NAME of the text before is none of this one.
        C.says("NAMES: 1 to 6 letters, unlike ones (of all sorts), told ahead of where they are asked.");
        WishSea x = Checks.with(A);
        C.due("new text", Checks.shore(x, "first a;"), -1);
        C.due("new text", x.fault(0), 3);
    }

    private static void numbers() {
        C.says("4 a NUMBER that can't be, at its first byte;");
        C.fault("thing a worth 100 rhymes 1;", 4, 14);
        C.fault("thing a worth 0100 abcdefgh", 4, 14);
        C.fault("thing a worth 99 rhymes 10;", 4, 24);
        C.fault("thing a worth 99 rhymes 0;", 4, 24);
        C.fault(A + "wish b words 10 gives a;", 4, 38);
        C.fault("bears 0;", 4, 6);
        C.fault("bears 1000;", 4, 6);
        C.fault("calm 1000;", 4, 5);
    }

    private static void depth() {
        C.says("5 the 8th ( [ not that is open at once (not until its FACT ends), at it;");
        C.fine("content not not not not not not not all;", 1);
        C.fault("content not not not not not not not not all;", 5, 36);
        C.fine("content not not not not not not not all and not not not not not not not all or not all;", 1);
        C.fine("dark (((((((1)))))))+(((((((2)))))));", 1);
        C.fault("dark ((((((((1))))))));", 5, 12);
        C.fine("dark ((((((min(1,2)))))));", 1);
        C.fine("dark min(1,2)" + "+min(1,2)-max((3),4)".repeat(9) + ";", 1);
        C.fault("dark (((((((min(1,2))))))));", 5, 15);
        C.fault("content [not [not [not [[all]]]]];", 5, 24);
        C.fault("content [not [not [not [not all]]]];", 5, 24);
        C.fine("content [not [not [not [all]]]];", 1);
        C.fine("content [not [not [not [all] and [1=1]]]];", 1);
        C.fault("content [not [not [not [(1)=1]]]];", 5, 24);
        C.fault("content [not [not [not [all and (1)=1]]]];", 5, 32);
        C.fault("content not not not not not not not (1)=1;", 5, 36);
        C.fault("content not not not not not not not )", 1, 36);
    }

    private static void tooMany() {
        C.says("6 one too many of a kind of STATEMENT (a second dark, room, content, too), or the 81st STATEMENT "
                + "(whatever it is), at its first byte.");
        StringBuilder things = new StringBuilder();
        for (char c = 'a'; c < 'k'; c++) {
            things.append("thing ").append(c).append(" worth 1 rhymes 1;");
        }
        C.fine(things.toString(), 10);
        C.fault(things + "thing k worth 1 rhymes 1;", 6, 250);
        StringBuilder wishes = new StringBuilder(A);
        for (char c = 'b'; c < 'n'; c++) {
            wishes.append("wish ").append(c).append(" words 1 gives a;");
        }
        C.fine(wishes.toString(), 13);
        C.fault(wishes + " wish n words 1 gives a;", 6, wishes.length() + 1);
        C.fault("dark 1;dark 1;", 6, 7);
        C.fault("room 1;room", 6, 7);
        C.fault("content all;calm 1;content all;", 6, 19);
        C.fault("calm 5;".repeat(80) + " bears 0;", 6, 561);
        C.fault("calm 5;".repeat(80) + "dark", 6, 560);
    }

    private static void refusedTextLeavesAll() {
        C.says("NONE, refused (1), with a FAULT (all stays).");
        WishSea x = Checks.with(A + "thing b worth 7 rhymes 1;first b;wish w words 1 gives a;dark 3;room 50;calm 2;bears 9;");
        x.seed(77);
        x.say(0);
        Checks.row(x, 255);
        Checks.falls(x, 0, 5, 0);
        Checks.stop(x);
        x.image();
        C.due("refused", Checks.shore(x, "thing q worth 50 rhymes 1;dark 9;room 9;content all;first q;calm 5;bears 5;first b;"), -1);
        int[] has = {2, 1, 3, 8, 3, 1, 0, 50, 0, 9, 2, 1, 1, 77};
        for (int what = 0; what < has.length; what++) {
            C.due("has behind a refusal " + what, x.has(what), has[what]);
        }
        C.due("went stays", x.went(3), 1);
        C.due("bears stay", x.bears(1), 5);
        C.due("value stays", x.value(0), 995L * 8);
        C.due("undo stays", x.undo(), true);
        x.say(0);
        Checks.falls(x, 0, 5, 0, 0, 9, 1);
        C.due("falls", x.bears(0), 4);
        // A fine one makes all as at first, but the seed and the latest image.
        C.says("Without one all is as at first, no FALLS are told, nothing is KEPT, no ACT can be undone; the seed stays.");
        C.due("fine", Checks.shore(x, A), 1);
        int[] then = {1, 0, 0, 0, 0, 0, 0, 99, 0, 100, 0, 0, 0, 77};
        for (int what = 0; what < then.length; what++) {
            C.due("has behind a fine one " + what, x.has(what), then[what]);
        }
        C.says("Of the latest shore(): its FAULT (what 0; 0 without, and ahead of any), its place (1; NONE without).");
        C.due("fault gone", x.fault(0), 0);
        C.due("fault place gone", x.fault(1), -1);
        C.says("Of the latest row() of this SHORE:");
        C.due("went gone", x.went(0), -1);
        C.says("no FALLS are told,");
        C.due("bears gone", x.bears(0), 999);
        C.says("Of the latest stop() of this SHORE (that was not refused):");
        C.due("value gone", x.value(0), -1);
        C.says("no ACT can be undone;");
        C.due("undo gone", x.undo(), false);
        C.says("Byte k of the latest image();");
        C.due("octet stays", x.octet(5), 3);
        C.says("How many were refused: 0 feed(), end(); 1 shore();");
        C.due("status(1)", x.status(1), 1);
        C.says("Without one all is as at first,");
        x.night();
        x.night();
        C.due("again", Checks.shore(x, "calm 3;"), 1);
        C.due("DAY 0", x.has(6), 0);
    }

    /** What was read or worked out for one text is of no account for the next. */
    private static void oneTextBehindTheOther() {
        C.says("The tape (it goes, refused or not) is THE SHORE: how many STATEMENTS; NONE, refused (1), with a FAULT "
                + "(all stays). Without one all is as at first,");
        WishSea x = new WishSea();
        String text = A + "wish w words 1 gives a;dark 1" + "+1-1".repeat(380) + ";";
        for (int i = 0; i < 6; i++) {
            C.due("long text", Checks.shore(x, text), 3);
            C.due("long sum", x.wish(0, 6), 1);
            C.due("spoilt behind it", Checks.shore(x, text + "dark"), -1);
        }
        C.due("other text", Checks.shore(x, A + "wish w words 1 gives a;bears 5;"), 3);
        C.due("no dark", x.wish(0, 6), 0);
        C.due("ladder", x.ladder(1), 1);
        C.due("rivals", x.rivals(1, -1), 1);
        C.due("content", Checks.shore(x, "thing b worth 8 rhymes 1 brief;wish w words 1 gives b;room 0;calm 9;content day=9;"), 5);
        C.due("ladder by the new text", x.ladder(1), 0);
        C.due("rivals by the new text", x.rivals(1, -1), 0);
        C.due("said by the new text", x.rivals(1, 0), 20);
        C.due("bears of the new text", x.has(9), 100);
        C.due("last text", Checks.shore(x, "thing b worth 8 rhymes 1;wish w words 1 gives b;"), 2);
        C.due("no room", x.has(7), 99);
        C.due("no calm", x.has(10), 0);
        C.due("no content", x.has(8), 0);
        C.due("not brief", x.thing(0, 2), 0);
        C.due("once more", Checks.shore(x, "thing b worth 8 rhymes 1;wish w words 1 gives b;"), 2);
        C.due("not brief either", x.thing(0, 2), 0);
        C.due("ladder", x.ladder(1), 1);
        C.due("rivals", x.rivals(1, -1), 8);
    }

    private static void letters() {
        C.says("Letter k (0 .. 5) of the NAME of a THING (kind 0), a WISH (1): 1 .. 26; 0 behind it; NONE when there is "
                + "none such.");
        WishSea x = Checks.with("thing abcxyz worth 1 rhymes 1;thing zz worth 1 rhymes 1;wish z words 1 gives zz;");
        int[] first = {1, 2, 3, 24, 25, 26};
        for (int k = 0; k < 6; k++) {
            C.due("letter 0 0 " + k, x.letter(0, 0, k), first[k]);
            C.due("letter 0 1 " + k, x.letter(0, 1, k), k < 2 ? 26 : 0);
            C.due("letter 1 0 " + k, x.letter(1, 0, k), k < 1 ? 26 : 0);
        }
        C.due("letter k 6", x.letter(0, 0, 6), -1);
        C.due("letter k -1", x.letter(0, 0, -1), -1);
        C.due("letter thing 2", x.letter(0, 2, 0), -1);
        C.due("letter thing -1", x.letter(0, -1, 0), -1);
        C.due("letter wish 1", x.letter(1, 1, 0), -1);
        C.due("letter wish -1", x.letter(1, -1, 0), -1);
        C.due("letter kind 2", x.letter(2, 0, 0), -1);
        C.due("letter kind -1", x.letter(-1, 0, 0), -1);
    }
}
