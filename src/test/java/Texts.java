/** Makes texts of SHORES, fine ones and spoilt ones, always the same from the same number. */
final class Texts {
    private static final String[] OWN = {"thing", "worth", "rhymes", "brief", "wish", "words", "gives", "needs", "uses", "first",
        "dark", "room", "content", "bears", "calm", "had", "sea", "said", "day", "or", "and", "not", "all", "min", "max"};
    private static final String SIGNS = "();[],<>=+-*/% \n0123456789abcxyz;;  AZ_.\t\r\u00e9\u00ff\u0000";

    private long state;
    private int things;
    private int wishes;
    private String[] thingNames;

    Texts(long state) {
        this.state = state * 7919 + 17;
    }

    int below(int m) {
        state = state * 6364136223846793005L + 1442695040888963407L;
        return (int) ((state >>> 33) % Math.max(1, m));
    }

    private String blank() {
        int kind = below(12);
        return kind == 0 ? "\n" : kind == 1 ? "  " : kind == 2 ? " \n " : " ";
    }

    private String gap() {
        return below(6) == 0 ? blank() : "";
    }

    private String name(String start, int number) {
        String name = start + (char) ('a' + number);
        for (int more = below(5); more > 0; more--) {
            name += (char) ('a' + below(26));
        }
        return name;
    }

    private String row(String word, int bar) {
        String row = "";
        int set = bar;
        for (int count = 1 + below(2); count > 0; count--) {
            int thing = below(things);
            if ((set & 1 << thing) == 0) {
                row += blank() + thingNames[thing];
                set |= 1 << thing;
            }
        }
        return row.isEmpty() ? "" : blank() + word + row;
    }

    String part(int depth) {
        switch (below(depth > 0 ? 15 : 11)) {
            case 0:
                return "worth";
            case 1:
                return "had";
            case 2:
                return "sea";
            case 3:
                return "said";
            case 4:
                return "day";
            case 5:
                return "words";
            case 6:
                return "rhymes";
            case 11:
                return "(" + sum(depth - 1) + ")";
            case 12:
                return "min" + gap() + "(" + sum(depth - 1) + "," + sum(depth - 1) + gap() + ")";
            case 13:
                return "max (" + sum(depth - 1) + gap() + "," + sum(depth - 1) + ")";
            default:
                return "" + below(below(8) == 0 ? 10000 : 12);
        }
    }

    String product(int depth) {
        String product = part(depth);
        while (below(3) == 0) {
            product += gap() + "*/%".charAt(below(3)) + gap() + part(depth);
        }
        return product;
    }

    String sum(int depth) {
        String sum = gap() + product(depth);
        while (below(2) == 0) {
            sum += gap() + "+-".charAt(below(2)) + gap() + product(depth);
        }
        return sum;
    }

    String fact(int depth) {
        int kind = below(depth > 0 ? 8 : 6);
        if (kind == 0) {
            return "all";
        }
        if (kind == 6) {
            return "not" + blank() + fact(depth - 1);
        }
        if (kind == 7) {
            return "[" + test(depth - 1) + gap() + "]";
        }
        return sum(depth / 2) + gap() + "<>=".charAt(below(3)) + sum(depth / 2);
    }

    String test(int depth) {
        String test = gap() + fact(depth);
        while (below(2) == 0) {
            test += blank() + (below(2) == 0 ? "or" : "and") + blank() + fact(depth);
        }
        return test;
    }

    private String thing(int i) {
        return "thing" + blank() + thingNames[i] + blank() + "worth" + blank() + below(below(3) == 0 ? 100 : 12) + blank()
                + "rhymes" + blank() + (1 + below(below(3) == 0 ? 9 : 3)) + (below(3) == 0 ? blank() + "brief" : "") + gap();
    }

    private String wish(int i) {
        int given = below(3) == 0 ? below(things) : (i * 5 + 1) % things;
        return "wish" + blank() + name("w", i) + blank() + "words" + blank() + below(below(3) == 0 ? 10 : 4) + blank() + "gives"
                + blank() + thingNames[given] + (below(3) == 0 ? row("needs", 0) : "") + (below(3) == 0 ? row("uses", 1 << given) : "");
    }

    /** A SHORE in which many WISHES MAY be said, one behind the other. */
    private String rich() {
        things = 4 + below(7);
        wishes = 5 + below(8);
        thingNames = new String[things];
        StringBuilder text = new StringBuilder();
        for (int i = 0; i < things; i++) {
            thingNames[i] = name("t", i);
            text.append("thing ").append(thingNames[i]).append(" worth ").append(below(40)).append(" rhymes ").append(1 + below(4));
            text.append(below(3) == 0 ? " brief;" : ";").append(below(3) == 0 ? "first " + thingNames[i] + ";" : "");
        }
        text.append("dark words*").append(1 + below(4)).append("+had*").append(below(3)).append(below(2) == 0 ? "+said%2;" : ";");
        text.append("room ").append(9 + below(10)).append("-sea/").append(5 + below(20)).append("+day%3;");
        for (int i = 0; i < wishes; i++) {
            int given = (i * 3 + 1) % things;
            text.append("wish ").append(name("w", i)).append(" words ").append(below(6)).append(" gives ").append(thingNames[given]);
            text.append(below(3) == 0 ? row("needs", 0) : "").append(below(3) == 0 ? row("uses", 1 << given) : "").append(";");
        }
        text.append(below(2) == 0 ? "content worth>" + (60 + below(100)) + " or said=" + (3 + below(6)) + ";" : "");
        text.append("bears ").append(20 + below(100)).append(";calm ").append(below(30)).append(";");
        return text.toString();
    }

    /** A SHORE without a FAULT. */
    String fine() {
        if (below(3) == 0) {
            return rich();
        }
        things = 1 + below(below(3) == 0 ? 10 : 5);
        wishes = below(3) == 0 ? below(13) : 2 + below(7);
        thingNames = new String[things];
        StringBuilder text = new StringBuilder();
        for (int i = 0; i < things; i++) {
            thingNames[i] = name("t", i);
            text.append(gap()).append(thing(i)).append(';');
            if (below(3) == 0) {
                text.append("first").append(blank()).append(thingNames[i]).append(";");
            }
        }
        if (below(5) != 0) {
            text.append(below(3) != 0 ? "dark words+rhymes*" + below(5) + "+" + below(4) : "dark " + sum(2)).append(gap()).append(';');
        }
        if (below(3) == 0) {
            text.append(below(2) == 0 ? "room " + (6 + below(12)) + "-sea/" + below(20) : "room" + blank() + sum(3)).append(";\n");
        }
        for (int i = 0; i < wishes; i++) {
            text.append(wish(i)).append(gap()).append(';');
        }
        if (below(3) == 0) {
            text.append(below(2) == 0 ? "content worth>" + below(90) : "content" + blank() + test(3)).append(";");
        }
        for (int more = below(3); more > 0; more--) {
            text.append(below(2) == 0 ? "bears " + (1 + below(below(2) == 0 ? 999 : 60)) : "calm " + below(20)).append(";");
        }
        return text.append(gap()).toString();
    }

    /** One more of some statement, behind some other one. */
    private void doubleStatement(StringBuilder text) {
        String[] all = text.toString().split(";");
        String one = all.length == 0 ? ";" : all[below(all.length)] + ";";
        int times = below(4) == 0 ? 81 : 1 + below(13);
        int at = text.indexOf(";", below(text.length())) + 1;
        for (int i = 0; i < times && text.length() + one.length() <= 1600; i++) {
            text.insert(at, below(3) == 0 ? one : below(2) == 0 ? "bears 5;" : below(2) == 0 ? "thing q" + (char) ('a' + i % 26)
                    + " worth 1 rhymes 1;" : "wish v" + (char) ('a' + i % 26) + " words 0 gives " + thingNames[0] + ";");
        }
    }

    private void deepen(StringBuilder text) {
        int place = text.indexOf(below(2) == 0 ? "sea" : "=", below(text.length() + 1));
        String[] openers = {"(", "[", "not ", "min(", "max ("};
        for (int i = 0; i < 5 + below(6) && place >= 0; i++) {
            text.insert(place, openers[below(3) == 0 ? below(5) : 0]);
            if (below(2) == 0) {
                text.insert(Math.min(text.length(), text.indexOf("sea", place) + 3), below(4) == 0 ? ",4)" : ")");
            }
        }
    }

    /** Some SHORE with a few bytes or words gone, come or changed; it may still be fine. */
    String spoilt() {
        StringBuilder text = new StringBuilder(fine());
        for (int times = 1 + below(2); times > 0; times--) {
            int at = below(text.length() + 1);
            int to = Math.min(text.length(), at + 1 + below(3));
            switch (below(10)) {
                case 7:
                case 8:
                    doubleStatement(text);
                    break;
                case 9:
                    deepen(text);
                    break;
                case 0:
                    text.delete(at, to);
                    break;
                case 1:
                    text.insert(at, SIGNS.charAt(below(SIGNS.length())));
                    break;
                case 2:
                    text.insert(at, " " + OWN[below(OWN.length)] + " ");
                    break;
                case 3:
                    text.setLength(at);
                    break;
                case 4:
                    int from = below(text.length() + 1);
                    text.insert(at, text.substring(Math.min(at, from), Math.min(text.length(), Math.min(at, from) + below(40))));
                    break;
                case 5:
                    text.replace(at, to, "" + SIGNS.charAt(below(SIGNS.length())));
                    break;
                default:
                    text.insert(at, below(20000));
                    break;
            }
        }
        return text.toString();
    }

    String any() {
        return below(3) == 0 ? fine() : spoilt();
    }
}
