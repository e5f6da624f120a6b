/** Promises 28 to 31: image, octet, on, status. */
public final class ImageTest {
    private static final Checks C = new Checks();
    private static final String TEXT = "thing a worth 1 rhymes 1;thing b worth 2 rhymes 1;thing c worth 4 rhymes 1;"
            + "wish wa words 0 gives a;wish wb words 0 gives b;dark 99;bears 300;first c;";

    public static void main(String[] args) {
        images();
        goingOn();
        noImages();
        refusals();
        C.end();
    }

    static int[] bytes(int day, int said, int sea, int things) {
        int[] bytes = {day / 256, day % 256, said / 256, said % 256, sea / 256, sea % 256, things / 256, things % 256, 97};
        for (int i = 0; i < 8; i++) {
            bytes[8] = (5 * bytes[8] + bytes[i]) % 251;
        }
        return bytes;
    }

    private static void octets(String when, WishSea x, int... want) {
        for (int k = 0; k < 9; k++) {
            C.due(when + ": octet " + k, x.octet(k), want[k]);
        }
    }

    private static void images() {
        C.says("Byte k of the latest image(); NONE when there is none such.");
        WishSea x = new WishSea();
        C.due("ahead of any", x.octet(0), -1);
        C.says("AN IMAGE is written: how many bytes.");
        C.due("image", x.image(), 9);
        octets("new", x, 0, 0, 0, 0, 0, 0, 0, 0, 167);
        C.says("Byte k of the latest image(); NONE when there is none such.");
        C.due("octet 9", x.octet(9), -1);
        C.due("octet -1", x.octet(-1), -1);
        Checks.shore(x, TEXT);
        octets("stays", x, 0, 0, 0, 0, 0, 0, 0, 0, 167);
        C.says("AN IMAGE: DAY (two bytes, the higher first), how many were said this DAY (two bytes), the sea (two "
                + "bytes), THINGS as bits (two bytes); last a byte: all ahead from 97 on, c = (5 c + it) mod 251.");
        Checks.on(x, bytes(9999, 9998, 258, 1));
        x.image();
        octets("great ones", x, 39, 15, 39, 14, 1, 2, 0, 1, bytes(9999, 9998, 258, 1)[8]);
        x.say(1);
        octets("the latest", x, 39, 15, 39, 14, 1, 2, 0, 1, bytes(9999, 9998, 258, 1)[8]);
        x.image();
        // 258 and 99 are above 300: one too many, none was said.
        octets("then", x, 39, 15, 0, 0, 0, 0, 0, 4, bytes(9999, 0, 0, 4)[8]);
        StringBuilder ten = new StringBuilder();
        for (char c = 'a'; c < 'k'; c++) {
            ten.append("thing ").append(c).append(" worth 1 rhymes 1;first ").append(c).append(";");
        }
        WishSea y = Checks.with(ten.toString());
        y.image();
        octets("ten THINGS", y, 0, 0, 0, 0, 0, 0, 3, 255, bytes(0, 0, 0, 1023)[8]);
        C.says("THINGS that there are");
        C.due("ten THINGS", Checks.on(y, bytes(0, 0, 0, 1023)), true);
        C.due("eleven", Checks.on(y, bytes(0, 0, 0, 1024)), false);
    }

    private static void goingOn() {
        C.says("The tape (it goes, refused or not) is AN IMAGE of this SHORE: true, all is as it tells, nothing is KEPT, "
                + "no ACT can be undone;");
        WishSea x = Checks.with(TEXT);
        x.say(0);
        x.night();
        x.say(1);
        Checks.row(x, 255);
        Checks.falls(x, 0, 5, 0);
        C.due("on", Checks.on(x, bytes(700, 8, 300, 3)), true);
        int[] has = {3, 2, 3, 3, 300, 8, 700, 99, 0, 300, 0, 0, 0, 1};
        for (int what = 0; what < has.length; what++) {
            C.due("on: has " + what, x.has(what), has[what]);
        }
        C.due("no ACT", x.undo(), false);
        C.due("not KEPT", x.kept(0, 0), -1);
        C.says("Of the latest row() of this SHORE:");
        C.due("went stays", x.went(3), 2);
        C.says("BEARS by FALLS (all without):");
        C.due("bears stay", x.bears(1), 5);
        C.says("The tape (it goes, refused or not) is AN IMAGE of this SHORE: true, all is as it tells,");
        C.due("the tape is gone", x.end(1), false);
        C.due("on", Checks.on(x, bytes(9999, 9999, 300, 7)), true);
        C.due("on", Checks.on(x, bytes(0, 0, 0, 0)), true);
        C.due("on: THINGS", x.has(2), 0);
        x.night();
        C.due("on: ACTS", x.has(12), 1);
    }

    private static void noImages() {
        C.says("false, refused (5), all staying, if it is none such (DAY 9999 at most, 9999 said at most, a sea no more "
                + "than the fish bears, THINGS that there are).");
        WishSea x = Checks.with(TEXT);
        x.say(0);
        C.due("DAY 10000", Checks.on(x, bytes(10000, 0, 0, 0)), false);
        C.due("said 10000", Checks.on(x, bytes(0, 10000, 0, 0)), false);
        C.due("sea 301", Checks.on(x, bytes(0, 0, 301, 0)), false);
        C.due("fourth THING", Checks.on(x, bytes(0, 0, 0, 8)), false);
        C.due("sixteenth THING", Checks.on(x, bytes(0, 0, 0, 32768)), false);
        C.due("DAY 65535", Checks.on(x, bytes(65535, 0, 0, 0)), false);
        int[] wrong = bytes(1, 1, 1, 1);
        wrong[8] = (wrong[8] + 1) % 251;
        C.due("last byte", Checks.on(x, wrong), false);
        wrong = bytes(0, 0, 0, 0);
        wrong[8] += 0;
        C.due("eight bytes", Checks.on(x, java.util.Arrays.copyOf(wrong, 8)), false);
        C.due("ten bytes", Checks.on(x, java.util.Arrays.copyOf(wrong, 10)), false);
        C.due("no bytes", x.on(), false);
        C.due("status(5)", x.status(5), 10);
        int[] has = {3, 2, 5, 5, 99, 1, 0, 99, 0, 300, 0, 1, 1, 1};
        for (int what = 0; what < has.length; what++) {
            C.due("stays: has " + what, x.has(what), has[what]);
        }
        C.due("this one is", Checks.on(x, wrong), true);
    }

    private static void refusals() {
        C.says("How many were refused: 0 feed(), end(); 1 shore(); 2 say(); 3 night(), days(); 4 undo(); 5 seed(), row(), "
                + "falls(), stop(), on(). NONE for others.");
        WishSea x = new WishSea();
        for (int what = 0; what < 6; what++) {
            C.due("status " + what, x.status(what), 0);
        }
        C.due("status 6", x.status(6), -1);
        C.due("status -1", x.status(-1), -1);
        x.end(1);
        Checks.shore(x, "x");
        x.say(0);
        x.days(0);
        x.undo();
        x.seed(-1);
        Checks.row(x, 0);
        x.falls();
        Checks.stop(x, 0);
        x.on();
        int[] want = {1, 1, 1, 1, 1, 5};
        for (int what = 0; what < 6; what++) {
            C.due("status then " + what, x.status(what), want[what]);
        }
        // Asking what is none is no refusal; a fine SHORE and undo leave the counts.
        x.has(99);
        x.wish(0, 0);
        x.ladder(9);
        x.rivals(9, 9);
        Checks.shore(x, TEXT);
        x.say(0);
        x.undo();
        for (int what = 0; what < 6; what++) {
            C.due("status still " + what, x.status(what), want[what]);
        }
    }
}
