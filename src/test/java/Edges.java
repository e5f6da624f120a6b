import java.util.ArrayList;
import java.util.HashSet;
import java.util.List;
import java.util.Set;

/**
 * Runs the tests of the boundary cases, each under the sentence of ../shared/DOC.md that it holds the class against.
 * A sentence that the document hasn't, one without a test, and a piece of the document that no sentence told here
 * covers are failures, too.
 */
final class Edges {
    interface Test {
        void run();
    }

    private final String document = Document.TEXT;
    private final boolean[] covered;
    private final Set<String> names = new HashSet<>();
    private int from;
    private int to;
    private String sentence = "";
    private String name = "";
    private int edgesOfSentence = 1;
    private int dues;
    private int edges;
    private int wrong;

    Edges() {
        covered = new boolean[document.length()];
    }

    // ---- sentences

    /** The tests from now on are of the document from this start up to that end. */
    void under(String start, String end) {
        from = Math.max(0, document.indexOf(start));
        to = document.indexOf(end, from);
        to = to < 0 ? document.length() : to;
        check(document.contains(start), "the document has no " + start);
    }

    void promise(int number, String call) {
        under("## Promise " + number + ":", number < 31 ? "## Promise " + (number + 1) + ":" : "## Not promised");
        plain("## Promise " + number + ": ");
        int body = document.indexOf("`: ", from) + 3;
        check(document.substring(from, body).contains("`" + call), "promise " + number + " is not " + call);
        cover(from, body);
    }

    /** A sentence that names boundary cases: its tests stand behind it. */
    void says(String words) {
        check(edgesOfSentence > 0, "no test under: " + sentence);
        sentence = words;
        edgesOfSentence = 0;
        quote(words);
    }

    /** A sentence that names no boundary case; or one of which all are held elsewhere. */
    void plain(String words) {
        quote(words);
    }

    private void quote(String words) {
        int at = document.indexOf(words, from);
        while (at >= 0 && at + words.length() <= to && isCovered(at, at + words.length())) {
            at = document.indexOf(words, at + 1);
        }
        boolean found = at >= 0 && at + words.length() <= to;
        check(found, "not in the document, or told already: " + words);
        if (found) {
            cover(at, at + words.length());
        }
    }

    private boolean isCovered(int start, int end) {
        for (int i = start; i < end; i++) {
            if (!covered[i]) {
                return false;
            }
        }
        return true;
    }

    private void cover(int start, int end) {
        for (int i = start; i < end; i++) {
            covered[i] = true;
        }
    }

    // ---- tests

    void edge(String edgeName, Test test) {
        name = edgeName;
        check(names.add(from + sentence + edgeName), "two tests of one name");
        edges++;
        edgesOfSentence++;
        dues = 0;
        try {
            test.run();
            check(dues > 0, "nothing is looked at");
        } catch (RuntimeException thrown) {
            check(false, "threw " + thrown);
        }
    }

    void due(String what, long got, long want) {
        dues++;
        check(got == want, what + " answered " + got + ", due is " + want);
    }

    void due(String what, boolean got, boolean want) {
        due(what, got ? 1 : 0, want ? 1 : 0);
    }

    /** The text, less the one ^ in it, has this FAULT where the ^ stands; and nothing of it counts. */
    void fault(int kind, String marked) {
        int place = marked.indexOf('^');
        String text = marked.replace("^", "");
        check(place >= 0 && text.length() == marked.length() - 1, "one ^ is due in " + marked);
        WishSea x = Checks.with("thing oldone worth 3 rhymes 1;first oldone;");
        due("shore of " + marked, Checks.shore(x, text), WishSea.NONE);
        due("fault(0) of " + marked, x.fault(0), kind);
        due("fault(1) of " + marked, x.fault(1), place);
        due("has(3) behind " + marked, x.has(3), 3);
        due("status(1) behind " + marked, x.status(1), 1);
    }

    void fine(int statements, String text) {
        WishSea x = new WishSea();
        due("shore of " + text, Checks.shore(x, text), statements);
        due("fault(0) of " + text, x.fault(0), 0);
        due("fault(1) of " + text, x.fault(1), WishSea.NONE);
    }

    private void check(boolean holds, String otherwise) {
        if (!holds) {
            wrong++;
            System.out.println("\"" + sentence + "\": " + name + ": " + otherwise);
        }
    }

    // ---- the end

    void end() {
        check(edgesOfSentence > 0, "no test under: " + sentence);
        sentence = "";
        name = "";
        for (String piece : leftOut(document.indexOf("## Terms"), document.indexOf("## Not promised"))) {
            check(false, "left out of the document: " + piece);
        }
        System.out.println(wrong == 0 ? "all " + edges + " boundary cases are as due" : wrong + " faults");
        if (wrong != 0) {
            System.exit(1);
        }
    }

    private List<String> leftOut(int start, int end) {
        List<String> pieces = new ArrayList<>();
        StringBuilder piece = new StringBuilder();
        for (int i = start; i <= end; i++) {
            if (i < end && !covered[i]) {
                piece.append(document.charAt(i));
            } else {
                if (piece.toString().matches(".*[A-Za-z0-9].*")) {
                    pieces.add(piece.toString());
                }
                piece.setLength(0);
            }
        }
        return pieces;
    }
}
