import java.util.Arrays;

/** A fish that grants wishes and a sea that darkens by them, told as a text; ../shared/DOC.md says what each call does. */
public final class WishSea {
    public static final int NONE = -1;
    public static final int NOTHING = -1000000000;

    private static final int MOST_BYTES = 1600;
    private static final int MOST_STATEMENTS = 80;
    private static final int MOST_THINGS = 10;
    private static final int MOST_WISHES = 12;
    private static final int MOST_OPEN = 7;
    private static final int MOST_DARK = 99;
    private static final int MOST_BEARS = 999;
    private static final int LAST_DAY = 9999;
    private static final int LIMIT = 1000000;

    private static final int DAY_ENDS = 255;
    private static final int MOST_ROW = 40;
    private static final int MOST_STOP = 12;
    private static final int MOST_FALLS = 20;
    private static final int MOST_DAYS = 40;
    private static final int MOST_RUNGS = 8;
    private static final int MOST_TURNS = 4;
    private static final int NOTHING_SAID = 20;
    private static final int IMAGE_BYTES = 9;

    private static final int ONE_TOO_MANY = 6;
    private static final int BEYOND_LAST_DAY = 7;

    // The SUMS and the TEST of a SHORE, by number.
    private static final int DARK_SUM = 0;
    private static final int ROOM_SUM = 1;
    private static final int CONTENT_TEST = 2;

    // A token is a byte of the text itself (0 .. 255) or one of these; in the code of a SUM it stands with a minus ahead.
    private static final int END = 256;
    private static final int NUMBER = 257;
    private static final int NAME = 258;
    private static final int BROKEN = 259;
    private static final int FIRST_OWN = 300;
    private static final int THING = 300;
    private static final int WORTH = 301;
    private static final int RHYMES = 302;
    private static final int BRIEF = 303;
    private static final int WISH = 304;
    private static final int WORDS = 305;
    private static final int GIVES = 306;
    private static final int NEEDS = 307;
    private static final int USES = 308;
    private static final int FIRST = 309;
    private static final int DARK = 310;
    private static final int ROOM = 311;
    private static final int CONTENT = 312;
    private static final int BEARS = 313;
    private static final int CALM = 314;
    private static final int HAD = 315;
    private static final int SEA = 316;
    private static final int SAID = 317;
    private static final int DAY = 318;
    private static final int OR = 319;
    private static final int AND = 320;
    private static final int NOT = 321;
    private static final int ALL = 322;
    private static final int MIN = 323;
    private static final int MAX = 324;
    private static final int OWN_COUNT = 25;
    // In the order of the tokens above, a blank behind each.
    private static final String OWN_WORDS =
            "thing worth rhymes brief wish words gives needs uses first dark room content bears calm had sea said day or and not all min max ";

    private final int[] tape = new int[MOST_BYTES];
    private int tapeLength;
    private Shore live = new Shore();
    private Shore draft = new Shore();
    private final Reader reader = new Reader(tape, draft);
    private final Moment now = new Moment();
    private final Moment trial = new Moment();
    private final Past past = new Past();
    private final Rivalry rivalry = new Rivalry(live);
    private Rungs rungs;
    private int chance = 1;
    private int leastBears = 1;
    private int mostBears = MOST_BEARS;
    private final int[] gone = new int[5];
    private final long[] values = new long[MOST_STOP + 1];
    private final int[] octets = new int[IMAGE_BYTES];
    private final int[] refused = new int[6];

    public WishSea() {
        Arrays.fill(gone, NONE);
        Arrays.fill(values, NONE);
        Arrays.fill(octets, NONE);
    }

    // ---- the tape and the SHORE

    public int feed(int a, int b, int c, int d, int e) {
        if (tapeLength + 20 > tape.length) {
            return refuse(0);
        }
        feedNumber(a);
        feedNumber(b);
        feedNumber(c);
        feedNumber(d);
        feedNumber(e);
        return tapeLength;
    }

    public boolean end(int n) {
        if (n < 0 || n > tapeLength) {
            refuse(0);
            return false;
        }
        tapeLength = n;
        return true;
    }

    public int shore() {
        reader.begin(takeTape(), draft);
        for (int i = 0; i <= tape.length && reader.goesOn(); i++) {
            reader.statement();
        }
        if (reader.fault != 0) {
            return refuse(1);
        }
        Shore before = live;
        live = draft;
        draft = before;
        beginAnew();
        return live.statements;
    }

    public int fault(int what) {
        switch (what) {
            case 0:
                return reader.fault;
            case 1:
                return reader.place;
            default:
                return NONE;
        }
    }

    public int has(int what) {
        switch (what) {
            case 0:
                return live.things;
            case 1:
                return live.wishes;
            case 2:
                return now.things;
            case 3:
                return live.worthOf(now.things);
            case 4:
                return now.sea;
            case 5:
                return now.said;
            case 6:
                return now.day;
            case 7:
                return live.roomOf(now);
            case 8:
                return live.isContent(now) ? 1 : 0;
            case 9:
                return live.bears;
            case 10:
                return live.calm;
            case 11:
                return past.told();
            case 12:
                return past.undoable;
            case 13:
                return chance;
            default:
                return NONE;
        }
    }

    public int letter(int kind, int which, int k) {
        if (k < 0 || k > 5) {
            return NONE;
        }
        if (kind == 0 && isThing(which)) {
            return letterOf(live.thingNames[which], k);
        }
        if (kind == 1 && isWish(which)) {
            return letterOf(live.wishNames[which], k);
        }
        return NONE;
    }

    public int thing(int thing, int what) {
        if (!isThing(thing)) {
            return NONE;
        }
        switch (what) {
            case 0:
                return live.worths[thing];
            case 1:
                return live.rhymes[thing];
            case 2:
                return live.brief >> thing & 1;
            case 3:
                return now.things >> thing & 1;
            case 4:
                return live.first >> thing & 1;
            case 5:
                return live.giversOf(thing);
            default:
                return NONE;
        }
    }

    public int wish(int wish, int what) {
        if (!isWish(wish)) {
            return NONE;
        }
        switch (what) {
            case 0:
                return live.gives[wish];
            case 1:
                return live.needs[wish];
            case 2:
                return live.uses[wish];
            case 3:
                return live.words[wish];
            case 4:
                return live.lengthOf(wish);
            case 5:
                return live.whyNot(now, wish);
            case 6:
                return live.darkOf(now, wish);
            case 7:
                return past.timesTold(wish);
            default:
                return NONE;
        }
    }

    // ---- acts

    public int say(int wish) {
        if (!isWish(wish) || live.whyNot(now, wish) != 0) {
            return refuse(2);
        }
        past.remember(now);
        grant(wish);
        return now.sea;
    }

    public int night() {
        if (now.day >= LAST_DAY) {
            return refuse(3);
        }
        past.remember(now);
        live.endDay(now);
        return now.day;
    }

    public int days(int n) {
        if (n < 1 || n > MOST_DAYS || now.day + n > LAST_DAY) {
            return refuse(3);
        }
        past.remember(now);
        int said = 0;
        for (int i = 0; i < n; i++) {
            said += dayBySeed();
        }
        return said;
    }

    public boolean undo() {
        if (past.undoable == 0) {
            refuse(4);
            return false;
        }
        past.bringBack(now);
        return true;
    }

    public boolean seed(int seed) {
        if (seed < 0) {
            refuse(5);
            return false;
        }
        chance = seed;
        return true;
    }

    public int kept(int k, int what) {
        if (k < 0 || k >= past.told()) {
            return NONE;
        }
        return past.tell(k, what);
    }

    // ---- rows, ladders

    public int row() {
        int length = takeTape();
        if (length > MOST_ROW || !namesWishes(length, DAY_ENDS)) {
            return refuse(5);
        }
        trial.take(now);
        int why = 0;
        int greatest = now.sea;
        int done = 0;
        while (done < length && why == 0) {
            why = goThrough(tape[done]);
            if (why == 0) {
                greatest = Math.max(greatest, trial.sea);
                done++;
            }
        }
        gone[0] = why;
        gone[1] = trial.things;
        gone[2] = trial.sea;
        gone[3] = trial.day;
        gone[4] = greatest;
        return done;
    }

    public int went(int what) {
        return what >= 0 && what < gone.length ? gone[what] : NONE;
    }

    public int ladder(int k) {
        if (k < 0 || k > MOST_RUNGS) {
            return NONE;
        }
        return theRungs().climb(live, now).count(k);
    }

    public int fewest(int things, int what) {
        Rungs all = theRungs().climb(live, now);
        int found = all.fewestWith(things);
        if (found < 0) {
            return NONE;
        }
        switch (what) {
            case 0:
                return all.wishesOf(found);
            case 1:
                return all.seaOf(found);
            case 2:
                return all.setOf(found);
            default:
                return what >= 10 ? all.wishOnTheWay(found, what - 10) : NONE;
        }
    }

    public int most(int n, int what) {
        if (n < 0 || n > MOST_RUNGS) {
            return NONE;
        }
        Rungs all = theRungs().climb(live, now);
        int found = all.mostBy(n);
        if (found < 0) {
            return NONE;
        }
        switch (what) {
            case 0:
                return live.lastingWorthOf(all.setOf(found));
            case 1:
                return all.wishesOf(found);
            case 2:
                return all.seaOf(found);
            case 3:
                return all.setOf(found);
            default:
                return NONE;
        }
    }

    public int ends(int what) {
        Rungs all = theRungs().climb(live, now);
        int found = all.fewestContent();
        if (found < 0) {
            return NONE;
        }
        switch (what) {
            case 0:
                return all.wishesOf(found);
            case 1:
                return all.seaOf(found);
            case 2:
                return all.setOf(found);
            default:
                return NONE;
        }
    }

    // ---- how much it bears, when to stop

    public int falls() {
        int length = takeTape();
        int rows = length / 3;
        if (rows < 1 || rows > MOST_FALLS || rows * 3 != length || !tellsFalls(rows)) {
            return refuse(5);
        }
        leastBears = 1;
        mostBears = MOST_BEARS;
        for (int row = 0; row < rows; row++) {
            int dark = tape[3 * row] * 256 + tape[3 * row + 1];
            if (tape[3 * row + 2] == 1) {
                mostBears = Math.min(mostBears, dark - 1);
            } else {
                leastBears = Math.max(leastBears, dark);
            }
        }
        return rows;
    }

    public int bears(int what) {
        int count = bearsFrom(leastBears);
        switch (what) {
            case 0:
                return count;
            case 1:
                return count > 0 ? leastBears : NONE;
            case 2:
                return count > 0 ? mostBears : NONE;
            default:
                return NONE;
        }
    }

    public int stop() {
        int length = takeTape();
        if (length > MOST_STOP || !namesWishes(length, NONE) || bearsFrom(leastBears) == 0 || !mayAllBeSaid(length)) {
            return refuse(5);
        }
        Arrays.fill(values, NONE);
        trial.take(now);
        // By no WISHES no sea is behind one, so all of BEARS bear it, however dark the sea is now.
        int greatest = 0;
        int best = 0;
        for (int k = 0; k <= length && k < values.length; k++) {
            if (k > 0) {
                live.grantAt(trial, tape[k - 1], live.seaBehind(trial, tape[k - 1]));
                greatest = Math.max(greatest, trial.sea);
            }
            values[k] = valueOf(trial.things, greatest);
            if (values[k] > values[best]) {
                best = k;
            }
        }
        return best;
    }

    public long value(int k) {
        return k >= 0 && k < values.length ? values[k] : NONE;
    }

    // ---- neighbours, before

    public int rivals(int n, int k) {
        if (n < 0 || n > MOST_TURNS || k < NONE || k >= n) {
            return NOTHING;
        }
        rivalry.play(live, n);
        return k == NONE ? rivalry.margins[n] : rivalry.moves[n * MOST_TURNS + k];
    }

    public int before(int what) {
        boolean could = (now.things & live.brief) == 0;
        switch (what) {
            case 0:
                return could ? 1 << Integer.bitCount(live.brief) : 0;
            case 1:
                return could ? now.things : NONE;
            case 2:
                return could ? now.things | live.brief : NONE;
            default:
                return NONE;
        }
    }

    // ---- images, refusals

    public int image() {
        putPair(0, now.day);
        putPair(2, now.said);
        putPair(4, now.sea);
        putPair(6, now.things);
        octets[IMAGE_BYTES - 1] = checkOf(octets);
        return IMAGE_BYTES;
    }

    public int octet(int k) {
        return k >= 0 && k < octets.length ? octets[k] : NONE;
    }

    public boolean on() {
        if (!isImage(takeTape())) {
            refuse(5);
            return false;
        }
        now.put(pairAt(6), pairAt(4), pairAt(2), pairAt(0));
        past.forget();
        return true;
    }

    public int status(int what) {
        return what >= 0 && what < refused.length ? refused[what] : NONE;
    }

    // ---- what the calls share

    private int refuse(int kind) {
        if (kind >= 0 && kind < refused.length) {
            refused[kind]++;
        }
        return NONE;
    }

    private void feedNumber(int number) {
        for (int shift = 24; shift >= 0; shift -= 8) {
            if (tapeLength < tape.length) {
                tape[tapeLength] = number >>> shift & 255;
                tapeLength++;
            }
        }
    }

    /** The tape goes, refused or not; its bytes can be read until the next feed(). */
    private int takeTape() {
        int length = tapeLength;
        tapeLength = 0;
        return length;
    }

    private void beginAnew() {
        now.put(live.first, 0, 0, 0);
        past.forget();
        rivalry.forget();
        if (rungs != null) {
            rungs.forget();
        }
        leastBears = 1;
        mostBears = MOST_BEARS;
        Arrays.fill(gone, NONE);
        Arrays.fill(values, NONE);
    }

    private boolean isThing(int thing) {
        return thing >= 0 && thing < live.things;
    }

    private boolean isWish(int wish) {
        return wish >= 0 && wish < live.wishes;
    }

    private static int letterOf(int name, int k) {
        int rest = name;
        for (int i = 0; i < k; i++) {
            rest /= 27;
        }
        return rest % 27;
    }

    private boolean namesWishes(int length, int alsoFine) {
        for (int i = 0; i < length && i < tape.length; i++) {
            if (!isWish(tape[i]) && tape[i] != alsoFine) {
                return false;
            }
        }
        return true;
    }

    private void grant(int wish) {
        int sea = live.seaBehind(now, wish);
        boolean tooMany = sea > live.bears;
        if (tooMany) {
            now.put(live.first, 0, 0, now.day);
        } else {
            live.grantAt(now, wish, sea);
        }
        past.keep(now.day, wish, now.sea, tooMany);
    }

    private int draw(int m) {
        chance = (int) ((1103515245L * chance + 12345L) & 0x7FFFFFFFL);
        return m > 0 ? (chance >> 6) % m : 0;
    }

    private int dayBySeed() {
        int said = 0;
        int often = draw(4);
        for (int i = 0; i < often; i++) {
            int may = live.mayBeSaid(now);
            if (may != 0) {
                grant(pick(may, draw(Integer.bitCount(may))));
                said++;
            }
        }
        live.endDay(now);
        return said;
    }

    /** The bit number of the k-th bit that is set. */
    private static int pick(int bits, int k) {
        int ahead = 0;
        for (int bit = 0; bit < MOST_WISHES; bit++) {
            if ((bits >> bit & 1) == 1) {
                if (ahead == k) {
                    return bit;
                }
                ahead++;
            }
        }
        return 0;
    }

    /** One step of a ROW, on the trial: why it can't be gone, 0 when it is. */
    private int goThrough(int step) {
        if (step == DAY_ENDS) {
            if (trial.day >= LAST_DAY) {
                return BEYOND_LAST_DAY;
            }
            live.endDay(trial);
            return 0;
        }
        int why = live.whyNot(trial, step);
        if (why != 0) {
            return why;
        }
        int sea = live.seaBehind(trial, step);
        if (sea > live.bears) {
            return ONE_TOO_MANY;
        }
        live.grantAt(trial, step, sea);
        return 0;
    }

    /** Made at their first use, as their table is large and not every object is asked for it. */
    private Rungs theRungs() {
        if (rungs == null) {
            rungs = new Rungs(live);
        }
        return rungs;
    }

    private boolean tellsFalls(int rows) {
        for (int row = 0; row < rows; row++) {
            if (tape[3 * row + 2] > 1) {
                return false;
            }
        }
        return true;
    }

    /** How many of BEARS are not below a sea: BEARS are always numbers in a row, from leastBears to mostBears. */
    private int bearsFrom(int sea) {
        return Math.max(0, mostBears - Math.max(leastBears, sea) + 1);
    }

    private boolean mayAllBeSaid(int length) {
        trial.take(now);
        for (int i = 0; i < length && i < tape.length; i++) {
            if (live.whyNot(trial, tape[i]) != 0) {
                return false;
            }
            live.grantAt(trial, tape[i], live.seaBehind(trial, tape[i]));
        }
        return true;
    }

    private long valueOf(int things, int greatestSea) {
        long bearing = bearsFrom(greatestSea);
        long others = bearsFrom(leastBears) - bearing;
        return bearing * live.worthOf(things) + others * live.worthOf(live.first);
    }

    private void putPair(int place, int number) {
        if (place >= 0 && place + 1 < octets.length) {
            octets[place] = number >> 8 & 255;
            octets[place + 1] = number & 255;
        }
    }

    private int pairAt(int place) {
        return place >= 0 && place + 1 < tape.length ? tape[place] * 256 + tape[place + 1] : 0;
    }

    private static int checkOf(int[] bytes) {
        int check = 97;
        for (int i = 0; i < IMAGE_BYTES - 1 && i < bytes.length; i++) {
            check = (5 * check + bytes[i]) % 251;
        }
        return check;
    }

    private boolean isImage(int length) {
        return length == IMAGE_BYTES
                && tape[IMAGE_BYTES - 1] == checkOf(tape)
                && pairAt(0) <= LAST_DAY
                && pairAt(2) <= LAST_DAY
                && pairAt(4) <= live.bears
                && pairAt(6) < 1 << live.things;
    }

    /** All that WISHES and DAYS change of the sea and of what one has. */
    private static final class Moment {
        int things;
        int sea;
        int said;
        int day;

        void put(int newThings, int newSea, int newSaid, int newDay) {
            things = newThings;
            sea = newSea;
            said = newSaid;
            day = newDay;
        }

        void take(Moment other) {
            put(other.things, other.sea, other.said, other.day);
        }

        boolean isLike(Moment other) {
            return things == other.things && sea == other.sea && said == other.said && day == other.day;
        }
    }

    /** What a text tells, and the rules of it for any moment. */
    private static final class Shore {
        final int[] thingNames = new int[MOST_THINGS];
        final int[] worths = new int[MOST_THINGS];
        final int[] rhymes = new int[MOST_THINGS];
        final int[] wishNames = new int[MOST_WISHES];
        final int[] words = new int[MOST_WISHES];
        final int[] gives = new int[MOST_WISHES];
        final int[] needs = new int[MOST_WISHES];
        final int[] uses = new int[MOST_WISHES];
        // The code of all SUMS, parts ahead of what joins them; each token of a text makes one element at most.
        final int[] code = new int[MOST_BYTES];
        final int[] codeFrom = new int[3];
        final int[] codeTo = new int[3];
        // Seven are open at most, and each of these leaves three waiting at most.
        final int[] waiting = new int[64];
        int codeLength;
        int things;
        int wishes;
        int brief;
        int first;
        int bears = 100;
        int calm;
        int statements;

        void clear() {
            Arrays.fill(codeFrom, 0);
            Arrays.fill(codeTo, 0);
            codeLength = 0;
            things = 0;
            wishes = 0;
            brief = 0;
            first = 0;
            bears = 100;
            calm = 0;
            statements = 0;
        }

        void beginCode(int which) {
            if (which >= 0 && which < codeFrom.length) {
                codeFrom[which] = codeLength;
            }
        }

        void endCode(int which) {
            if (which >= 0 && which < codeTo.length) {
                codeTo[which] = codeLength;
            }
        }

        void write(int element) {
            if (codeLength < code.length) {
                code[codeLength] = element;
                codeLength++;
            }
        }

        boolean tells(int which) {
            return which >= 0 && which < codeTo.length && codeTo[which] > codeFrom[which];
        }

        int worthOf(int set) {
            int worth = 0;
            for (int thing = 0; thing < things; thing++) {
                if ((set >> thing & 1) == 1) {
                    worth += worths[thing];
                }
            }
            return worth;
        }

        int lastingWorthOf(int set) {
            return worthOf(set & ~brief);
        }

        int giversOf(int thing) {
            int count = 0;
            for (int wish = 0; wish < wishes; wish++) {
                if (gives[wish] == thing) {
                    count++;
                }
            }
            return count;
        }

        int rhymeOf(int wish) {
            if (wish < 0 || wish >= wishes) {
                return 0;
            }
            int given = gives[wish];
            return given >= 0 && given < things ? rhymes[given] : 0;
        }

        int wordsOf(int wish) {
            return wish >= 0 && wish < wishes ? words[wish] : 0;
        }

        int lengthOf(int wish) {
            return wordsOf(wish) + rhymeOf(wish);
        }

        int roomOf(Moment at) {
            if (!tells(ROOM_SUM)) {
                return MOST_DARK;
            }
            return Math.max(0, Math.min(MOST_DARK, reckon(ROOM_SUM, at, NONE)));
        }

        boolean isContent(Moment at) {
            return tells(CONTENT_TEST) && reckon(CONTENT_TEST, at, NONE) != 0;
        }

        int darkOf(Moment at, int wish) {
            if (!tells(DARK_SUM)) {
                return 0;
            }
            return Math.max(0, Math.min(MOST_DARK, reckon(DARK_SUM, at, wish)));
        }

        int seaBehind(Moment at, int wish) {
            return at.sea + darkOf(at, wish);
        }

        int thingsBehind(int set, int wish) {
            return wish >= 0 && wish < wishes ? set & ~uses[wish] | 1 << gives[wish] : set;
        }

        void grantAt(Moment at, int wish, int newSea) {
            at.put(thingsBehind(at.things, wish), newSea, at.said + 1, at.day);
        }

        void endDay(Moment at) {
            at.put(at.things & ~brief, Math.max(0, at.sea - calm), 0, at.day + 1);
        }

        int whyNot(Moment at, int wish) {
            int why = whyNotYet(at.things, wish, roomOf(at));
            if (why != 0) {
                return why;
            }
            return isContent(at) ? 5 : 0;
        }

        private int whyNotYet(int set, int wish, int room) {
            if (wish < 0 || wish >= wishes) {
                return NONE;
            }
            if ((set & needs[wish]) != needs[wish]) {
                return 1;
            }
            if ((set & uses[wish]) != uses[wish]) {
                return 2;
            }
            if ((set >> gives[wish] & 1) == 1) {
                return 3;
            }
            return lengthOf(wish) > room ? 4 : 0;
        }

        /** All WISHES that MAY be said, as bits: ROOM and CONTENT are reckoned once for all of them. */
        int mayBeSaid(Moment at) {
            if (isContent(at)) {
                return 0;
            }
            int room = roomOf(at);
            int bits = 0;
            for (int wish = 0; wish < wishes; wish++) {
                if (whyNotYet(at.things, wish, room) == 0) {
                    bits |= 1 << wish;
                }
            }
            return bits;
        }

        private int reckon(int which, Moment at, int wish) {
            int top = 0;
            int to = Math.min(codeTo[which], code.length);
            for (int i = codeFrom[which]; i < to; i++) {
                int token = -code[i];
                if (token <= 0 || isPart(token) || token == ALL) {
                    if (top >= waiting.length) {
                        return 0;
                    }
                    waiting[top] = token <= 0 ? -token : partOf(token, at, wish);
                    top++;
                } else if (token == NOT) {
                    if (top < 1) {
                        return 0;
                    }
                    waiting[top - 1] = 1 - waiting[top - 1];
                } else {
                    if (top < 2) {
                        return 0;
                    }
                    top--;
                    waiting[top - 1] = joined(token, waiting[top - 1], waiting[top]);
                }
            }
            return top > 0 ? waiting[0] : 0;
        }

        private int partOf(int token, Moment at, int wish) {
            switch (token) {
                case WORTH:
                    return worthOf(at.things);
                case HAD:
                    return Integer.bitCount(at.things);
                case SEA:
                    return at.sea;
                case SAID:
                    return at.said;
                case DAY:
                    return at.day;
                case WORDS:
                    return wordsOf(wish);
                case RHYMES:
                    return rhymeOf(wish);
                case ALL:
                    return at.things == (1 << things) - 1 ? 1 : 0;
                default:
                    return 0;
            }
        }

        private static int joined(int token, int a, int b) {
            switch (token) {
                case '+':
                    return within((long) a + b);
                case '-':
                    return within((long) a - b);
                case '*':
                    return within((long) a * b);
                case '/':
                    return b == 0 ? 0 : within(Math.floorDiv(a, b));
                case '%':
                    return b == 0 ? 0 : within(Math.floorMod(a, b));
                case MIN:
                    return Math.min(a, b);
                case MAX:
                    return Math.max(a, b);
                case '<':
                    return a < b ? 1 : 0;
                case '>':
                    return a > b ? 1 : 0;
                case '=':
                    return a == b ? 1 : 0;
                case AND:
                    return a & b;
                case OR:
                    return a | b;
                default:
                    return 0;
            }
        }

        private static int within(long result) {
            if (result > LIMIT) {
                return LIMIT;
            }
            return result < -LIMIT ? -LIMIT : (int) result;
        }

        static boolean isPart(int token) {
            return token == WORTH || token == WORDS || token == RHYMES || token >= HAD && token <= DAY;
        }
    }

    /** Reads a text token by token into a SHORE, up to its first FAULT. */
    private static final class Reader {
        private final int[] text;
        private final long[] ownKeys = new long[OWN_COUNT];
        private Shore told;
        private int length;
        private int position;
        private int start;
        private int token = END;
        private int value;
        private int opened;
        int fault;
        int place = NONE;

        Reader(int[] text, Shore told) {
            this.text = text;
            this.told = told;
            int word = 0;
            long unit = 1;
            for (int i = 0; i < OWN_WORDS.length() && word < OWN_COUNT; i++) {
                if (OWN_WORDS.charAt(i) == ' ') {
                    word++;
                    unit = 1;
                } else {
                    ownKeys[word] += (OWN_WORDS.charAt(i) - 'a' + 1) * unit;
                    unit *= 27;
                }
            }
        }

        void begin(int newLength, Shore empty) {
            told = empty;
            told.clear();
            length = Math.min(newLength, text.length);
            position = 0;
            token = END;
            opened = 0;
            fault = 0;
            place = NONE;
            step();
        }

        boolean goesOn() {
            return fault == 0 && token != END;
        }

        void statement() {
            int kind = token;
            if (!beginsStatement(kind)) {
                blame(1, start);
                return;
            }
            if (told.statements >= MOST_STATEMENTS || isOneTooMany(kind)) {
                blame(6, start);
                return;
            }
            step();
            switch (kind) {
                case THING:
                    readThing();
                    break;
                case WISH:
                    readWish();
                    break;
                case FIRST:
                    told.first |= bitOf(askedThing(told.first));
                    break;
                case BEARS:
                    told.bears = numberFrom(1, MOST_BEARS);
                    break;
                case CALM:
                    told.calm = numberFrom(0, MOST_BEARS);
                    break;
                default:
                    told.beginCode(codeOf(kind));
                    if (kind == CONTENT) {
                        readTest();
                    } else {
                        readSum();
                    }
                    told.endCode(codeOf(kind));
                    break;
            }
            told.statements++;
            pass(';');
        }

        private static boolean beginsStatement(int kind) {
            return kind == THING || kind == WISH || kind >= FIRST && kind <= CALM;
        }

        private static int codeOf(int kind) {
            return kind == DARK ? DARK_SUM : kind == ROOM ? ROOM_SUM : CONTENT_TEST;
        }

        private boolean isOneTooMany(int kind) {
            switch (kind) {
                case THING:
                    return told.things >= MOST_THINGS;
                case WISH:
                    return told.wishes >= MOST_WISHES;
                case DARK:
                case ROOM:
                case CONTENT:
                    return told.tells(codeOf(kind));
                default:
                    return false;
            }
        }

        private void readThing() {
            int name = newName();
            pass(WORTH);
            int worth = numberFrom(0, 99);
            pass(RHYMES);
            int rhyme = numberFrom(1, 9);
            boolean isBrief = token == BRIEF;
            if (isBrief) {
                step();
            }
            int thing = told.things;
            if (fault == 0 && thing < MOST_THINGS) {
                told.thingNames[thing] = name;
                told.worths[thing] = worth;
                told.rhymes[thing] = rhyme;
                told.brief |= isBrief ? 1 << thing : 0;
                told.things++;
            }
        }

        private void readWish() {
            int name = newName();
            pass(WORDS);
            int words = numberFrom(0, 9);
            pass(GIVES);
            int given = askedThing(0);
            int needs = 0;
            int uses = 0;
            if (token == NEEDS) {
                step();
                needs = thingRow(0);
            }
            if (token == USES) {
                step();
                uses = thingRow(bitOf(given));
            }
            int wish = told.wishes;
            if (fault == 0 && wish < MOST_WISHES) {
                told.wishNames[wish] = name;
                told.words[wish] = words;
                told.gives[wish] = given;
                told.needs[wish] = needs;
                told.uses[wish] = uses;
                told.wishes++;
            }
        }

        private int thingRow(int barred) {
            int bits = bitOf(askedThing(barred));
            for (int i = 0; i < MOST_THINGS && token == NAME; i++) {
                bits |= bitOf(askedThing(bits | barred));
            }
            return bits;
        }

        /** The THING that is named here, NONE with a FAULT. */
        private int askedThing(int barred) {
            if (token != NAME) {
                blame(1, start);
                return NONE;
            }
            int thing = indexOf(value, told.thingNames, told.things);
            if (thing < 0 || (barred >> thing & 1) == 1) {
                blame(3, start);
                return NONE;
            }
            step();
            return thing;
        }

        private static int bitOf(int thing) {
            return thing < 0 ? 0 : 1 << thing;
        }

        private int newName() {
            int name = value;
            if (token != NAME) {
                blame(1, start);
            } else if (indexOf(name, told.thingNames, told.things) >= 0
                    || indexOf(name, told.wishNames, told.wishes) >= 0) {
                blame(2, start);
            }
            step();
            return name;
        }

        private static int indexOf(int name, int[] names, int count) {
            for (int i = 0; i < count && i < names.length; i++) {
                if (names[i] == name) {
                    return i;
                }
            }
            return NONE;
        }

        private int numberFrom(int least, int greatest) {
            int number = value;
            if (token != NUMBER) {
                blame(1, start);
            } else if (number < least || number > greatest) {
                blame(4, start);
            }
            step();
            return number;
        }

        // The loops below end with the text: each round takes a token of it.

        private void readTest() {
            readBoth();
            for (int i = 0; i < length && token == OR; i++) {
                step();
                readBoth();
                told.write(-OR);
            }
        }

        private void readBoth() {
            readFact();
            for (int i = 0; i < length && token == AND; i++) {
                step();
                readFact();
                told.write(-AND);
            }
        }

        private void readFact() {
            if (token == NOT) {
                open();
                readFact();
                opened--;
                told.write(-NOT);
            } else if (token == '[') {
                open();
                readTest();
                opened--;
                pass(']');
            } else if (token == ALL) {
                told.write(-ALL);
                step();
            } else {
                readSum();
                int sign = token;
                if (sign != '<' && sign != '>' && sign != '=') {
                    blame(1, start);
                    return;
                }
                step();
                readSum();
                told.write(-sign);
            }
        }

        private void readSum() {
            readProduct();
            for (int i = 0; i < length && (token == '+' || token == '-'); i++) {
                int sign = token;
                step();
                readProduct();
                told.write(-sign);
            }
        }

        private void readProduct() {
            readPart();
            for (int i = 0; i < length && (token == '*' || token == '/' || token == '%'); i++) {
                int sign = token;
                step();
                readPart();
                told.write(-sign);
            }
        }

        private void readPart() {
            int part = token;
            if (part == NUMBER) {
                told.write(value);
                step();
            } else if (Shore.isPart(part)) {
                told.write(-part);
                step();
            } else if (part == '(') {
                open();
                readSum();
                opened--;
                pass(')');
            } else if (part == MIN || part == MAX) {
                readLeastOrGreatest(part);
            } else {
                blame(1, start);
            }
        }

        private void readLeastOrGreatest(int which) {
            step();
            if (token != '(') {
                blame(1, start);
                return;
            }
            open();
            readSum();
            pass(',');
            readSum();
            opened--;
            pass(')');
            told.write(-which);
        }

        /** Behind a FAULT the token is BROKEN, with which nothing goes on: so the reading never gets deeper than this. */
        private void open() {
            if (opened >= MOST_OPEN) {
                blame(5, start);
            }
            opened++;
            step();
        }

        private void pass(int due) {
            if (token != due) {
                blame(1, start);
            }
            step();
        }

        /** The first FAULT stays: what is read behind it is of no account. */
        private void blame(int kind, int where) {
            if (fault == 0) {
                fault = kind;
                place = where;
                token = BROKEN;
            }
        }

        /** Takes the next token; called only when all that can be wrong with this one has been looked at. */
        private void step() {
            if (fault != 0) {
                return;
            }
            int behind = position;
            boolean wasWhole = isWhole(token);
            while (position < length && (text[position] == ' ' || text[position] == '\n')) {
                position++;
            }
            start = position;
            if (position >= length) {
                token = END;
            } else if (isLetter(text[position])) {
                readWord();
            } else if (isDigit(text[position])) {
                readNumber();
            } else {
                token = text[position];
                position++;
            }
            if (wasWhole && start == behind && isWhole(token)) {
                blame(1, start);
            }
        }

        private static boolean isWhole(int token) {
            return token == NUMBER || token == NAME || token >= FIRST_OWN;
        }

        private static boolean isLetter(int sign) {
            return sign >= 'a' && sign <= 'z';
        }

        private static boolean isDigit(int sign) {
            return sign >= '0' && sign <= '9';
        }

        private void readWord() {
            long key = 0;
            long unit = 1;
            while (position < length && isLetter(text[position])) {
                if (position - start < 7) {
                    key += (text[position] - 'a' + 1) * unit;
                    unit *= 27;
                }
                position++;
            }
            int size = position - start;
            int own = size > 7 ? NONE : ownIndex(key);
            if (own >= 0) {
                token = FIRST_OWN + own;
            } else if (size > 6) {
                blame(1, start + 6);
            } else {
                token = NAME;
                value = (int) key;
            }
        }

        private int ownIndex(long key) {
            for (int i = 0; i < ownKeys.length; i++) {
                if (ownKeys[i] == key) {
                    return i;
                }
            }
            return NONE;
        }

        private void readNumber() {
            int number = 0;
            while (position < length && isDigit(text[position])) {
                if (position - start < 4) {
                    number = number * 10 + text[position] - '0';
                }
                position++;
            }
            if (position - start > 4) {
                blame(1, start + 4);
            } else {
                token = NUMBER;
                value = number;
            }
        }
    }

    /** What is KEPT, and what was ahead of each ACT that can be undone. */
    private static final class Past {
        private static final int MOST_TOLD = 50;
        private static final int MOST_UNDONE = 20;

        // An ACT keeps 120 at most (40 DAYS by the seed), so what was told ahead of 20 ACTS is never written over.
        private final int[] log = new int[MOST_TOLD + MOST_UNDONE * 3 * MOST_DAYS];
        private int logged;
        private final Moment[] moments = new Moment[MOST_UNDONE];
        private final int[] loggedThen = new int[MOST_UNDONE];
        private int acts;
        int undoable;

        Past() {
            for (int i = 0; i < moments.length; i++) {
                moments[i] = new Moment();
            }
        }

        void forget() {
            logged = 0;
            acts = 0;
            undoable = 0;
        }

        void remember(Moment now) {
            int at = acts % MOST_UNDONE;
            moments[at].take(now);
            loggedThen[at] = logged;
            acts++;
            undoable = Math.min(MOST_UNDONE, undoable + 1);
        }

        void bringBack(Moment now) {
            if (undoable < 1 || acts < 1) {
                return;
            }
            acts--;
            undoable--;
            int at = acts % MOST_UNDONE;
            now.take(moments[at]);
            logged = loggedThen[at];
        }

        void keep(int day, int wish, int sea, boolean tooMany) {
            log[logged % log.length] = ((day << 4 | wish) << 10 | sea) << 1 | (tooMany ? 1 : 0);
            logged++;
        }

        int told() {
            return Math.min(MOST_TOLD, logged);
        }

        private int entry(int k) {
            int at = logged - told() + k;
            return at >= 0 ? log[at % log.length] : 0;
        }

        int tell(int k, int what) {
            int entry = entry(k);
            switch (what) {
                case 0:
                    return entry >> 15;
                case 1:
                    return entry >> 11 & 15;
                case 2:
                    return entry >> 1 & 1023;
                case 3:
                    return entry & 1;
                default:
                    return NONE;
            }
        }

        int timesTold(int wish) {
            int times = 0;
            int count = told();
            for (int k = 0; k < count; k++) {
                if (tell(k, 1) == wish) {
                    times++;
                }
            }
            return times;
        }
    }

    /** THE LADDER of a moment. A place in it is the number of WISHES times the number of sets, and the set. */
    private static final class Rungs {
        private static final int EMPTY = 0x7FFFFFFF;

        // Sea, the set it came from and the WISH, in this order of bits: the least element is the one that counts.
        private final int[] table = new int[(MOST_RUNGS + 1) << MOST_THINGS];
        private final Moment from = new Moment();
        private final Moment here = new Moment();
        private Shore shore;
        private int sets;
        private boolean stands;

        Rungs(Shore shore) {
            this.shore = shore;
        }

        void forget() {
            stands = false;
        }

        Rungs climb(Shore newShore, Moment now) {
            if (stands && from.isLike(now)) {
                return this;
            }
            shore = newShore;
            from.take(now);
            stands = true;
            sets = 1 << shore.things;
            Arrays.fill(table, 0, (MOST_RUNGS + 1) * sets, EMPTY);
            if (now.things >= 0 && now.things < sets) {
                table[now.things] = now.sea << 14;
            }
            for (int place = 0; place < MOST_RUNGS * sets; place++) {
                if (table[place] != EMPTY) {
                    spread(place);
                }
            }
            return this;
        }

        private void stand(int place) {
            here.put(setOf(place), seaOf(place), from.said + wishesOf(place), from.day);
        }

        private void spread(int place) {
            stand(place);
            int may = shore.mayBeSaid(here);
            for (int wish = 0; wish < shore.wishes; wish++) {
                if ((may >> wish & 1) == 0) {
                    continue;
                }
                int sea = shore.seaBehind(here, wish);
                int to = (wishesOf(place) + 1) * sets + shore.thingsBehind(here.things, wish);
                if (sea <= shore.bears && to < table.length) {
                    table[to] = Math.min(table[to], sea << 14 | here.things << 4 | wish);
                }
            }
        }

        int wishesOf(int place) {
            return sets > 0 ? place / sets : 0;
        }

        int setOf(int place) {
            return sets > 0 ? place % sets : 0;
        }

        int seaOf(int place) {
            return place >= 0 && place < table.length ? table[place] >> 14 : 0;
        }

        int count(int rung) {
            int count = 0;
            for (int place = rung * sets; place < (rung + 1) * sets && place < table.length; place++) {
                if (table[place] != EMPTY) {
                    count++;
                }
            }
            return count;
        }

        /** Of two places by as many WISHES, the first being lower or none: the one with less sea. */
        private int better(int best, int place) {
            return best < 0 || seaOf(place) < seaOf(best) ? place : best;
        }

        int fewestWith(int things) {
            for (int rung = 0; rung <= MOST_RUNGS; rung++) {
                int best = NONE;
                for (int set = 0; set < sets; set++) {
                    int place = rung * sets + set;
                    if (table[place] != EMPTY && (set & things) == things) {
                        best = better(best, place);
                    }
                }
                if (best >= 0) {
                    return best;
                }
            }
            return NONE;
        }

        int fewestContent() {
            for (int rung = 0; rung <= MOST_RUNGS; rung++) {
                int best = NONE;
                for (int set = 0; set < sets; set++) {
                    int place = rung * sets + set;
                    if (table[place] != EMPTY && isContentAt(place)) {
                        best = better(best, place);
                    }
                }
                if (best >= 0) {
                    return best;
                }
            }
            return NONE;
        }

        private boolean isContentAt(int place) {
            stand(place);
            return shore.isContent(here);
        }

        int mostBy(int n) {
            int best = NONE;
            int bestWorth = NONE;
            for (int place = 0; place < (n + 1) * sets && place < table.length; place++) {
                if (table[place] == EMPTY) {
                    continue;
                }
                int worth = shore.lastingWorthOf(setOf(place));
                boolean like = worth == bestWorth && wishesOf(place) == wishesOf(best);
                if (worth > bestWorth || like && seaOf(place) < seaOf(best)) {
                    best = place;
                    bestWorth = worth;
                }
            }
            return best;
        }

        int wishOnTheWay(int place, int k) {
            int wishes = wishesOf(place);
            if (k < 0 || k >= wishes) {
                return NONE;
            }
            int at = place;
            for (int rung = wishes; rung > k + 1; rung--) {
                at = (rung - 1) * sets + (elementAt(at) >> 4 & 1023);
            }
            return elementAt(at) & 15;
        }

        private int elementAt(int place) {
            return place >= 0 && place < table.length ? table[place] : 0;
        }
    }

    /** NEIGHBOURS, for each number of turns worked out once for a SHORE. */
    private static final class Rivalry {
        final int[] margins = new int[MOST_TURNS + 1];
        final int[] moves = new int[(MOST_TURNS + 1) * MOST_TURNS];
        private final boolean[] played = new boolean[MOST_TURNS + 1];
        private final int[] chosen = new int[MOST_TURNS];
        private final Moment here = new Moment();
        private Shore shore;
        private int turns;

        Rivalry(Shore shore) {
            this.shore = shore;
        }

        void forget() {
            for (int i = 0; i < played.length; i++) {
                played[i] = false;
            }
        }

        void play(Shore newShore, int n) {
            if (n < 0 || n > MOST_TURNS || played[n]) {
                return;
            }
            played[n] = true;
            shore = newShore;
            turns = n;
            Arrays.fill(moves, n * MOST_TURNS, (n + 1) * MOST_TURNS, NOTHING_SAID);
            margins[n] = bestMargin(0, shore.first, shore.first, 0, 0);
            int own = shore.first;
            int other = shore.first;
            int sea = 0;
            int said = 0;
            for (int turn = 0; turn < n && sea <= shore.bears; turn++) {
                bestMargin(turn, own, other, sea, said);
                int wish = chosen[turn];
                moves[n * MOST_TURNS + turn] = wish;
                int mover = own;
                if (wish != NOTHING_SAID) {
                    sea = seaBehind(own, sea, said, wish);
                    mover = shore.thingsBehind(own, wish);
                    said++;
                }
                own = other;
                other = mover;
            }
        }

        private int seaBehind(int own, int sea, int said, int wish) {
            here.put(own, sea, said, 0);
            return sea + shore.darkOf(here, wish);
        }

        /** For the one whose turn it is; what he says is left in chosen. There are four turns at most, so four levels. */
        private int bestMargin(int turn, int own, int other, int sea, int said) {
            if (turn >= turns || turn >= chosen.length) {
                return shore.worthOf(own) - shore.worthOf(other);
            }
            here.put(own, sea, said, 0);
            int may = shore.mayBeSaid(here);
            int best = NOTHING;
            int bestWish = NOTHING_SAID;
            for (int wish = 0; wish < shore.wishes; wish++) {
                if ((may >> wish & 1) == 0) {
                    continue;
                }
                int margin = marginBy(wish, turn, own, other, sea, said);
                if (margin > best) {
                    best = margin;
                    bestWish = wish;
                }
            }
            int without = -bestMargin(turn + 1, other, own, sea, said);
            chosen[turn] = without > best ? NOTHING_SAID : bestWish;
            return Math.max(best, without);
        }

        private int marginBy(int wish, int turn, int own, int other, int sea, int said) {
            int newSea = seaBehind(own, sea, said, wish);
            if (newSea > shore.bears) {
                // It is over, and both are as at first: neither is ahead.
                return 0;
            }
            return -bestMargin(turn + 1, other, shore.thingsBehind(own, wish), newSea, said + 1);
        }
    }
}
