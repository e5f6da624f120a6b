import java.util.ArrayList;
import java.util.Arrays;
import java.util.HashMap;
import java.util.List;
import java.util.Map;
import java.util.TreeMap;
import java.util.function.ToIntFunction;
import java.util.regex.Matcher;
import java.util.regex.Pattern;

/** The document once more, written plainly from its words and without care for room or speed: what WishSea is held against. */
final class Model {
    static final int NONE = -1;
    static final int NOTHING = -1000000000;

    record At(int things, int sea, int said, int day, int wish) { }

    record Thing(String name, int worth, int rhyme, boolean brief) { }

    record Wish(String name, int words, int gives, int needs, int uses) { }

    record Kept(int day, int wish, int sea, int tooMany) { }

    record State(int things, int sea, int said, int day, List<Kept> kept) { }

    record Rung(int sea, int from, int wish) { }

    record Found(int wishes, int sea, int set, int worth) { }

    record Play(int margin, List<Integer> moves) { }

    @SuppressWarnings("serial")
    static final class Fault extends RuntimeException {
        final int kind;
        final int place;

        Fault(int kind, int place) {
            this.kind = kind;
            this.place = place;
        }
    }

    static final class Text {
        final List<Thing> things = new ArrayList<>();
        final List<Wish> wishes = new ArrayList<>();
        final Map<String, ToIntFunction<At>> sums = new HashMap<>();
        int first = 0;
        int bears = 100;
        int calm = 0;
        int statements = 0;

        int worth(int set) {
            int worth = 0;
            for (int i = 0; i < things.size(); i++) {
                worth += (set & 1 << i) != 0 ? things.get(i).worth() : 0;
            }
            return worth;
        }

        int briefs() {
            int set = 0;
            for (int i = 0; i < things.size(); i++) {
                set |= things.get(i).brief() ? 1 << i : 0;
            }
            return set;
        }

        int sum(String kind, At at, int otherwise) {
            if (!sums.containsKey(kind)) {
                return otherwise;
            }
            int sum = sums.get(kind).applyAsInt(at);
            return sum < 0 ? 0 : sum > 99 ? 99 : sum;
        }

        int room(State s) {
            return sum("room", new At(s.things, s.sea, s.said, s.day, NONE), 99);
        }

        int dark(State s, int wish) {
            return sum("dark", new At(s.things, s.sea, s.said, s.day, wish), 0);
        }

        boolean content(State s) {
            return sum("content", new At(s.things, s.sea, s.said, s.day, NONE), 0) != 0;
        }

        int together(int wish) {
            return wishes.get(wish).words() + things.get(wishes.get(wish).gives()).rhyme();
        }

        int why(State s, int wish) {
            Wish w = wishes.get(wish);
            if ((~s.things & w.needs()) != 0) {
                return 1;
            }
            if ((~s.things & w.uses()) != 0) {
                return 2;
            }
            if ((s.things & 1 << w.gives()) != 0) {
                return 3;
            }
            if (together(wish) > room(s)) {
                return 4;
            }
            return content(s) ? 5 : 0;
        }

        List<Integer> may(State s) {
            List<Integer> may = new ArrayList<>();
            for (int i = 0; i < wishes.size(); i++) {
                if (why(s, i) == 0) {
                    may.add(i);
                }
            }
            return may;
        }

        /** As if nothing were one too many; KEPT is not written. */
        State said(State s, int wish) {
            Wish w = wishes.get(wish);
            return new State((s.things & ~w.uses()) | 1 << w.gives(), s.sea + dark(s, wish), s.said + 1, s.day, s.kept);
        }

        State night(State s) {
            return new State(s.things & ~briefs(), Math.max(0, s.sea - calm), 0, s.day + 1, s.kept);
        }
    }

    // ---- the text

    private static final List<String> OWN = Arrays.asList("thing", "worth", "rhymes", "brief", "wish", "words", "gives", "needs",
            "uses", "first", "dark", "room", "content", "bears", "calm", "had", "sea", "said", "day", "or", "and", "not", "all",
            "min", "max");
    private static final Pattern WORD = Pattern.compile("[a-z]+");
    private static final Pattern DIGITS = Pattern.compile("[0-9]+");

    static final class Parser {
        final String s;
        final Text text = new Text();
        int at = 0;
        int open = 0;

        Parser(String s) {
            this.s = s;
        }

        /** Where the next token begins. */
        int next() {
            int i = at;
            while (i < s.length() && (s.charAt(i) == ' ' || s.charAt(i) == 10)) {
                i++;
            }
            return i;
        }

        /** The next token, "" at the end; a token that is faulty in itself is a FAULT. */
        String peek() {
            int i = next();
            if (i == s.length()) {
                return "";
            }
            Matcher word = WORD.matcher(s).region(i, s.length());
            Matcher digits = DIGITS.matcher(s).region(i, s.length());
            String found = s.substring(i, i + 1);
            boolean whole = false;
            if (word.lookingAt()) {
                found = word.group();
                whole = true;
                if (found.length() > 6 && !OWN.contains(found)) {
                    throw new Fault(1, i + 6);
                }
            } else if (digits.lookingAt()) {
                found = digits.group();
                whole = true;
                if (found.length() > 4) {
                    throw new Fault(1, i + 4);
                }
            }
            if (whole && i == at && i > 0 && Character.isLetterOrDigit(s.charAt(i - 1)) && s.charAt(i - 1) < 128) {
                throw new Fault(1, i);
            }
            return found;
        }

        void take() {
            String token = peek();
            at = next() + token.length();
        }

        boolean took(String token) {
            if (peek().equals(token)) {
                take();
                return true;
            }
            return false;
        }

        void due(String token) {
            if (!took(token)) {
                throw new Fault(1, next());
            }
        }

        String name() {
            String token = peek();
            if (token.isEmpty() || !Character.isLowerCase(token.charAt(0)) || token.charAt(0) > 127 || OWN.contains(token)) {
                throw new Fault(1, next());
            }
            return token;
        }

        boolean nameAhead() {
            String token = peek();
            return WORD.matcher(token).matches() && !OWN.contains(token);
        }

        String newName() {
            String name = name();
            for (Thing t : text.things) {
                if (t.name().equals(name)) {
                    throw new Fault(2, next());
                }
            }
            for (Wish w : text.wishes) {
                if (w.name().equals(name)) {
                    throw new Fault(2, next());
                }
            }
            take();
            return name;
        }

        int thing(int not) {
            String name = name();
            for (int i = 0; i < text.things.size(); i++) {
                if (text.things.get(i).name().equals(name) && (not & 1 << i) == 0) {
                    take();
                    return i;
                }
            }
            throw new Fault(3, next());
        }

        int things(int not) {
            int set = 0;
            do {
                set |= 1 << thing(not | set);
            } while (nameAhead());
            return set;
        }

        int number(int least, int most) {
            String token = peek();
            if (!DIGITS.matcher(token).matches()) {
                throw new Fault(1, next());
            }
            int n = Integer.parseInt(token);
            if (n < least || n > most) {
                throw new Fault(4, next());
            }
            take();
            return n;
        }

        Text all() {
            while (!peek().isEmpty()) {
                statement();
                due(";");
            }
            return text;
        }

        void statement() {
            String kind = peek();
            int place = next();
            boolean known = Arrays.asList("thing", "wish", "first", "dark", "room", "content", "bears", "calm").contains(kind);
            if (!known) {
                throw new Fault(1, place);
            }
            boolean full = kind.equals("thing") && text.things.size() == 10 || kind.equals("wish") && text.wishes.size() == 12
                    || text.sums.containsKey(kind) || text.statements == 80;
            if (full) {
                throw new Fault(6, place);
            }
            take();
            text.statements++;
            if (kind.equals("thing")) {
                String name = newName();
                due("worth");
                int worth = number(0, 99);
                due("rhymes");
                int rhyme = number(1, 9);
                text.things.add(new Thing(name, worth, rhyme, took("brief")));
            } else if (kind.equals("wish")) {
                String name = newName();
                due("words");
                int words = number(0, 9);
                due("gives");
                int gives = thing(0);
                int needs = took("needs") ? things(0) : 0;
                int uses = took("uses") ? things(1 << gives) : 0;
                text.wishes.add(new Wish(name, words, gives, needs, uses));
            } else if (kind.equals("first")) {
                text.first |= 1 << thing(text.first);
            } else if (kind.equals("bears")) {
                text.bears = number(1, 999);
            } else if (kind.equals("calm")) {
                text.calm = number(0, 999);
            } else {
                text.sums.put(kind, kind.equals("content") ? test() : sum());
            }
        }

        void open(String token) {
            if (peek().equals(token) && open == 7) {
                throw new Fault(5, next());
            }
            due(token);
            open++;
        }

        void close(String token) {
            due(token);
            open--;
        }

        ToIntFunction<At> test() {
            ToIntFunction<At> left = both();
            while (took("or")) {
                ToIntFunction<At> a = left;
                ToIntFunction<At> b = both();
                left = at -> a.applyAsInt(at) + b.applyAsInt(at) > 0 ? 1 : 0;
            }
            return left;
        }

        ToIntFunction<At> both() {
            ToIntFunction<At> left = fact();
            while (took("and")) {
                ToIntFunction<At> a = left;
                ToIntFunction<At> b = fact();
                left = at -> a.applyAsInt(at) * b.applyAsInt(at);
            }
            return left;
        }

        ToIntFunction<At> fact() {
            if (peek().equals("not")) {
                open("not");
                ToIntFunction<At> of = fact();
                open--;
                return at -> 1 - of.applyAsInt(at);
            }
            if (peek().equals("[")) {
                open("[");
                ToIntFunction<At> inside = test();
                close("]");
                return inside;
            }
            if (took("all")) {
                return at -> Integer.bitCount(at.things) == text.things.size() ? 1 : 0;
            }
            ToIntFunction<At> a = sum();
            String sign = peek();
            if (!sign.equals("<") && !sign.equals(">") && !sign.equals("=")) {
                throw new Fault(1, next());
            }
            take();
            ToIntFunction<At> b = sum();
            return at -> {
                int c = Integer.compare(a.applyAsInt(at), b.applyAsInt(at));
                return (sign.equals("<") ? c < 0 : sign.equals(">") ? c > 0 : c == 0) ? 1 : 0;
            };
        }

        ToIntFunction<At> sum() {
            ToIntFunction<At> left = product();
            while (peek().equals("+") || peek().equals("-")) {
                left = joined(left, peek(), true);
            }
            return left;
        }

        ToIntFunction<At> product() {
            ToIntFunction<At> left = part();
            while (peek().equals("*") || peek().equals("/") || peek().equals("%")) {
                left = joined(left, peek(), false);
            }
            return left;
        }

        ToIntFunction<At> joined(ToIntFunction<At> a, String sign, boolean products) {
            take();
            ToIntFunction<At> b = products ? product() : part();
            return at -> reckon(a.applyAsInt(at), sign.charAt(0), b.applyAsInt(at));
        }

        static int reckon(long a, char sign, long b) {
            long c;
            if (sign == '+') {
                c = a + b;
            } else if (sign == '-') {
                c = a - b;
            } else if (sign == '*') {
                c = a * b;
            } else {
                long below = b == 0 ? 0 : (long) Math.floor((double) a / (double) b);
                c = b == 0 ? 0 : sign == '/' ? below : a - b * below;
            }
            return (int) Math.min(1000000, Math.max(-1000000, c));
        }

        ToIntFunction<At> part() {
            String token = peek();
            int place = next();
            if (DIGITS.matcher(token).matches()) {
                take();
                int n = Integer.parseInt(token);
                return at -> n;
            }
            switch (token) {
                case "(": {
                    open("(");
                    ToIntFunction<At> inside = sum();
                    close(")");
                    return inside;
                }
                case "min":
                case "max": {
                    take();
                    open("(");
                    ToIntFunction<At> a = sum();
                    due(",");
                    ToIntFunction<At> b = sum();
                    close(")");
                    boolean min = token.equals("min");
                    return at -> min ? Math.min(a.applyAsInt(at), b.applyAsInt(at)) : Math.max(a.applyAsInt(at), b.applyAsInt(at));
                }
                case "worth":
                    take();
                    return at -> text.worth(at.things);
                case "had":
                    take();
                    return at -> Integer.bitCount(at.things);
                case "sea":
                    take();
                    return At::sea;
                case "said":
                    take();
                    return At::said;
                case "day":
                    take();
                    return At::day;
                case "words":
                    take();
                    return at -> at.wish < 0 ? 0 : text.wishes.get(at.wish).words();
                case "rhymes":
                    take();
                    return at -> at.wish < 0 ? 0 : text.things.get(text.wishes.get(at.wish).gives()).rhyme();
                default:
                    throw new Fault(1, place);
            }
        }
    }

    // ---- the calls

    private String tape = "";
    private Text text = new Text();
    private State now = new State(0, 0, 0, 0, new ArrayList<>());
    private final List<State> undone = new ArrayList<>();
    private long x = 1;
    private int faultKind = 0;
    private int faultPlace = NONE;
    private int[] gone = null;
    private long[] values = null;
    private List<int[]> fallen = new ArrayList<>();
    private int[] image = null;
    private final int[] refused = new int[6];

    private int refuse(int kind) {
        refused[kind]++;
        return NONE;
    }

    private String takeTape() {
        String all = tape;
        tape = "";
        return all;
    }

    int feed(int a, int b, int c, int d, int e) {
        if (tape.length() > 1580) {
            return refuse(0);
        }
        StringBuilder more = new StringBuilder(tape);
        for (int n : new int[] {a, b, c, d, e}) {
            for (int i = 3; i >= 0; i--) {
                more.append((char) (n >> 8 * i & 255));
            }
        }
        tape = more.toString();
        return tape.length();
    }

    boolean end(int n) {
        if (n < 0 || n > tape.length()) {
            refuse(0);
            return false;
        }
        tape = tape.substring(0, n);
        return true;
    }

    int shore() {
        Text read;
        try {
            read = new Parser(takeTape()).all();
        } catch (Fault fault) {
            faultKind = fault.kind;
            faultPlace = fault.place;
            return refuse(1);
        }
        faultKind = 0;
        faultPlace = NONE;
        text = read;
        now = new State(text.first, 0, 0, 0, new ArrayList<>());
        undone.clear();
        fallen = new ArrayList<>();
        gone = null;
        values = null;
        return text.statements;
    }

    int fault(int what) {
        return what == 0 ? faultKind : what == 1 ? faultPlace : NONE;
    }

    private List<Kept> told() {
        return now.kept.subList(Math.max(0, now.kept.size() - 50), now.kept.size());
    }

    int has(int what) {
        int[] all = {text.things.size(), text.wishes.size(), now.things, text.worth(now.things), now.sea, now.said, now.day,
            text.room(now), text.content(now) ? 1 : 0, text.bears, text.calm, told().size(), undone.size(), (int) x};
        return what >= 0 && what < all.length ? all[what] : NONE;
    }

    int letter(int kind, int which, int k) {
        if (kind < 0 || kind > 1 || which < 0 || which >= (kind == 0 ? text.things.size() : text.wishes.size()) || k < 0 || k > 5) {
            return NONE;
        }
        String name = kind == 0 ? text.things.get(which).name() : text.wishes.get(which).name();
        return k < name.length() ? name.charAt(k) - 96 : 0;
    }

    int thing(int thing, int what) {
        if (thing < 0 || thing >= text.things.size() || what < 0 || what > 5) {
            return NONE;
        }
        Thing t = text.things.get(thing);
        int givers = (int) text.wishes.stream().filter(w -> w.gives() == thing).count();
        return new int[] {t.worth(), t.rhyme(), t.brief() ? 1 : 0, now.things >> thing & 1, text.first >> thing & 1, givers}[what];
    }

    int wish(int wish, int what) {
        if (wish < 0 || wish >= text.wishes.size() || what < 0 || what > 7) {
            return NONE;
        }
        Wish w = text.wishes.get(wish);
        int kept = (int) told().stream().filter(k -> k.wish() == wish).count();
        return new int[] {w.gives(), w.needs(), w.uses(), w.words(), text.together(wish), text.why(now, wish),
            text.dark(now, wish), kept}[what];
    }

    private void remember() {
        undone.add(now);
        if (undone.size() > 20) {
            undone.remove(0);
        }
    }

    private void grant(int wish) {
        State then = text.said(now, wish);
        int tooMany = then.sea > text.bears ? 1 : 0;
        if (tooMany == 1) {
            then = new State(text.first, 0, 0, now.day, now.kept);
        }
        List<Kept> kept = new ArrayList<>(now.kept);
        kept.add(new Kept(now.day, wish, then.sea, tooMany));
        now = new State(then.things, then.sea, then.said, then.day, kept);
    }

    int say(int wish) {
        if (wish < 0 || wish >= text.wishes.size() || text.why(now, wish) != 0) {
            return refuse(2);
        }
        remember();
        grant(wish);
        return now.sea;
    }

    int night() {
        if (now.day == 9999) {
            return refuse(3);
        }
        remember();
        now = text.night(now);
        return now.day;
    }

    private int draw(int m) {
        x = (1103515245L * x + 12345L) % (1L << 31);
        return (int) (x / 64 % m);
    }

    int days(int n) {
        if (n < 1 || n > 40 || now.day + n > 9999) {
            return refuse(3);
        }
        remember();
        int count = 0;
        for (int day = 0; day < n; day++) {
            for (int often = draw(4); often > 0; often--) {
                List<Integer> may = text.may(now);
                if (!may.isEmpty()) {
                    grant(may.get(draw(may.size())));
                    count++;
                }
            }
            now = text.night(now);
        }
        return count;
    }

    boolean undo() {
        if (undone.isEmpty()) {
            refuse(4);
            return false;
        }
        now = undone.remove(undone.size() - 1);
        return true;
    }

    boolean seed(int seed) {
        if (seed < 0) {
            refuse(5);
            return false;
        }
        x = seed;
        return true;
    }

    int kept(int k, int what) {
        if (k < 0 || k >= told().size() || what < 0 || what > 3) {
            return NONE;
        }
        Kept kept = told().get(k);
        return new int[] {kept.day(), kept.wish(), kept.sea(), kept.tooMany()}[what];
    }

    int row() {
        String steps = takeTape();
        boolean fine = steps.length() <= 40 && steps.chars().allMatch(b -> b == 255 || b < text.wishes.size());
        if (!fine) {
            return refuse(5);
        }
        State s = now;
        int greatest = s.sea;
        int count = 0;
        int why = 0;
        for (int step : steps.chars().toArray()) {
            if (step == 255) {
                why = s.day == 9999 ? 7 : 0;
            } else {
                why = text.why(s, step);
                why = why == 0 && text.said(s, step).sea > text.bears ? 6 : why;
            }
            if (why != 0) {
                break;
            }
            s = step == 255 ? text.night(s) : text.said(s, step);
            greatest = Math.max(greatest, s.sea);
            count++;
        }
        gone = new int[] {why, s.things, s.sea, s.day, greatest};
        return count;
    }

    int went(int what) {
        return gone == null || what < 0 || what > 4 ? NONE : gone[what];
    }

    private List<TreeMap<Integer, Rung>> rungs() {
        List<TreeMap<Integer, Rung>> all = new ArrayList<>();
        TreeMap<Integer, Rung> rung = new TreeMap<>();
        rung.put(now.things, new Rung(now.sea, NONE, NONE));
        all.add(rung);
        for (int k = 1; k <= 8; k++) {
            TreeMap<Integer, Rung> next = new TreeMap<>();
            for (Map.Entry<Integer, Rung> e : rung.entrySet()) {
                State s = new State(e.getKey(), e.getValue().sea(), now.said + k - 1, now.day, null);
                for (int wish : text.may(s)) {
                    State then = text.said(s, wish);
                    Rung had = next.get(then.things);
                    // The sets come in their order, and so do the WISHES: only less sea is better.
                    if (then.sea <= text.bears && (had == null || then.sea < had.sea())) {
                        next.put(then.things, new Rung(then.sea, s.things, wish));
                    }
                }
            }
            all.add(next);
            rung = next;
        }
        return all;
    }

    int ladder(int k) {
        return k < 0 || k > 8 ? NONE : rungs().get(k).size();
    }

    int fewest(int things, int what) {
        List<TreeMap<Integer, Rung>> all = rungs();
        for (int k = 0; k <= 8; k++) {
            int best = NONE;
            for (int set : all.get(k).keySet()) {
                boolean has = (things & ~set) == 0;
                if (has && (best < 0 || all.get(k).get(set).sea() < all.get(k).get(best).sea())) {
                    best = set;
                }
            }
            if (best >= 0) {
                if (what >= 10 && what < 10 + k) {
                    List<Integer> way = new ArrayList<>();
                    int set = best;
                    for (int i = k; i > 0; i--) {
                        way.add(0, all.get(i).get(set).wish());
                        set = all.get(i).get(set).from();
                    }
                    return way.get(what - 10);
                }
                return what == 0 ? k : what == 1 ? all.get(k).get(best).sea() : what == 2 ? best : NONE;
            }
        }
        return NONE;
    }

    private static int tell(List<Found> all, java.util.Comparator<Found> order, int what, boolean worthAhead) {
        if (all.isEmpty()) {
            return NONE;
        }
        Found found = all.stream().min(order).get();
        int[] told = worthAhead ? new int[] {found.worth, found.wishes, found.sea, found.set}
                : new int[] {found.wishes, found.sea, found.set};
        return what >= 0 && what < told.length ? told[what] : NONE;
    }

    private List<Found> found(int upTo, boolean contentOnly) {
        List<Found> found = new ArrayList<>();
        List<TreeMap<Integer, Rung>> all = rungs();
        for (int k = 0; k <= upTo; k++) {
            for (int set : all.get(k).keySet()) {
                int sea = all.get(k).get(set).sea();
                if (!contentOnly || text.content(new State(set, sea, now.said + k, now.day, null))) {
                    found.add(new Found(k, sea, set, text.worth(set & ~text.briefs())));
                }
            }
        }
        return found;
    }

    int most(int n, int what) {
        if (n < 0 || n > 8) {
            return NONE;
        }
        return tell(found(n, false), java.util.Comparator.comparingInt((Found f) -> -f.worth).thenComparingInt(Found::wishes)
                .thenComparingInt(Found::sea).thenComparingInt(Found::set), what, true);
    }

    int ends(int what) {
        return tell(found(8, true), java.util.Comparator.comparingInt(Found::wishes).thenComparingInt(Found::sea)
                .thenComparingInt(Found::set), what, false);
    }

    int falls() {
        String rows = takeTape();
        if (rows.isEmpty() || rows.length() > 60 || rows.length() % 3 != 0) {
            return refuse(5);
        }
        List<int[]> all = new ArrayList<>();
        for (int i = 0; i < rows.length(); i += 3) {
            if (rows.charAt(i + 2) > 1) {
                return refuse(5);
            }
            all.add(new int[] {rows.charAt(i) * 256 + rows.charAt(i + 1), rows.charAt(i + 2)});
        }
        fallen = all;
        return all.size();
    }

    private List<Integer> bearing() {
        List<Integer> all = new ArrayList<>();
        for (int b = 1; b <= 999; b++) {
            boolean can = true;
            for (int[] fall : fallen) {
                can &= (fall[0] > b) == (fall[1] == 1);
            }
            if (can) {
                all.add(b);
            }
        }
        return all;
    }

    int bears(int what) {
        List<Integer> all = bearing();
        if (what == 0) {
            return all.size();
        }
        return all.isEmpty() || what < 1 || what > 2 ? NONE : all.get(what == 1 ? 0 : all.size() - 1);
    }

    int stop() {
        String wishes = takeTape();
        List<Integer> bearing = bearing();
        if (wishes.length() > 12 || bearing.isEmpty() || !wishes.chars().allMatch(b -> b < text.wishes.size())) {
            return refuse(5);
        }
        List<State> along = new ArrayList<>(List.of(now));
        for (int wish : wishes.chars().toArray()) {
            State s = along.get(along.size() - 1);
            if (text.why(s, wish) != 0) {
                return refuse(5);
            }
            along.add(text.said(s, wish));
        }
        values = new long[along.size()];
        int best = 0;
        for (int k = 0; k < values.length; k++) {
            for (int b : bearing) {
                boolean stands = true;
                for (int i = 1; i <= k; i++) {
                    stands &= b >= along.get(i).sea;
                }
                values[k] += text.worth(stands ? along.get(k).things : text.first);
            }
            best = values[k] > values[best] ? k : best;
        }
        return best;
    }

    long value(int k) {
        return values == null || k < 0 || k >= values.length ? NONE : values[k];
    }

    /** From the first one's side: at even turns he wants the most, at odd ones the other wants the least. */
    private Play play(int turn, int n, int a, int b, int sea, int said) {
        if (turn == n) {
            return new Play(text.worth(a) - text.worth(b), List.of());
        }
        int sign = turn % 2 == 0 ? 1 : -1;
        State mine = new State(turn % 2 == 0 ? a : b, sea, said, 0, null);
        List<Integer> options = new ArrayList<>(text.may(mine));
        options.add(20);
        Play best = null;
        for (int option : options) {
            Play then;
            if (option == 20) {
                then = play(turn + 1, n, a, b, sea, said);
            } else {
                State s = text.said(mine, option);
                if (s.sea > text.bears) {
                    then = new Play(0, List.of());
                } else if (turn % 2 == 0) {
                    then = play(turn + 1, n, s.things, b, s.sea, said + 1);
                } else {
                    then = play(turn + 1, n, a, s.things, s.sea, said + 1);
                }
            }
            if (best == null || sign * then.margin > sign * best.margin) {
                List<Integer> moves = new ArrayList<>(List.of(option));
                moves.addAll(then.moves);
                best = new Play(then.margin, moves);
            }
        }
        return best;
    }

    int rivals(int n, int k) {
        if (n < 0 || n > 4 || k < -1 || k >= n) {
            return NOTHING;
        }
        Play play = play(0, n, text.first, text.first, 0, 0);
        return k == -1 ? play.margin : k < play.moves.size() ? play.moves.get(k) : 20;
    }

    int before(int what) {
        List<Integer> sets = new ArrayList<>();
        for (int set = 0; set < 1 << text.things.size(); set++) {
            if ((set & ~text.briefs()) == now.things) {
                sets.add(set);
            }
        }
        if (what == 0) {
            return sets.size();
        }
        return sets.isEmpty() || what < 1 || what > 2 ? NONE : sets.get(what == 1 ? 0 : sets.size() - 1);
    }

    private static int check(int[] bytes) {
        int c = 97;
        for (int i = 0; i < 8; i++) {
            c = (5 * c + bytes[i]) % 251;
        }
        return c;
    }

    int image() {
        image = new int[] {now.day / 256, now.day % 256, now.said / 256, now.said % 256, now.sea / 256, now.sea % 256,
            now.things / 256, now.things % 256, 0};
        image[8] = check(image);
        return 9;
    }

    int octet(int k) {
        return image == null || k < 0 || k > 8 ? NONE : image[k];
    }

    boolean on() {
        int[] b = takeTape().chars().toArray();
        if (b.length == 9 && b[8] == check(b)) {
            State then = new State(b[6] * 256 + b[7], b[4] * 256 + b[5], b[2] * 256 + b[3], b[0] * 256 + b[1], new ArrayList<>());
            if (then.day <= 9999 && then.said <= 9999 && then.sea <= text.bears && then.things >> text.things.size() == 0) {
                now = then;
                undone.clear();
                return true;
            }
        }
        refuse(5);
        return false;
    }

    int status(int what) {
        return what < 0 || what > 5 ? NONE : refused[what];
    }
}
