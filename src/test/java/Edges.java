import java.nio.file.Files;
import java.nio.file.Path;
import java.util.ArrayList;
import java.util.List;
import java.util.TreeSet;

/**
 * What the tests of edges share: the settings they begin with, refusals that must change nothing, and the sentences of
 * the document, each of which is quoted ahead of its checks.
 */
final class Edges {
    static final int BAD = -1, FULL = -2, FINDING = -3, STATE = -4, SPENT = -6, NONE = -9;
    static final int NOTHING = 1, BEYOND = 2, UNLIKE = 3, NOUGHT = 4, SIZE = 5;
    static final int LEAST = Integer.MIN_VALUE, MOST = Integer.MAX_VALUE;
    /** One CUP of each KIND: 0 CUP, 1 JUG, 2 TEA, 3 GHOST, 4 FOAM, 5 DECAF. */
    static final String ALL = "e1c4033 j6114t5026g3155f7157d2098";
    /** Three who are called rightly. */
    static final String THREE = "e0c1000c1011c1022";
    /** Three whose CUPS go round: 1 takes 0, 2 takes 1, 0 takes 2. */
    static final String RING = "e0c1001c1012c1020";
    private static final Path DOCUMENT = Path.of("../shared/DOC.md");

    interface Call {
        long of(AnnCups x);
    }

    interface Setting {
        AnnCups made();
    }

    private static final List<String> quotes = new ArrayList<>();
    private static final TreeSet<Integer> promises = new TreeSet<>();
    private static String sentence = "";
    private static int checks;
    private static int wrong;

    private Edges() {
    }

    /** The checks that follow are of this sentence; promise 0 stands for the Terms. */
    static void sentence(int promise, String quote) {
        promises.add(promise);
        quotes.add(quote);
        sentence = promise + " \"" + quote + "\" ";
    }

    static void due(String what, long got, long want) {
        checks++;
        if (got != want) {
            wrong++;
            System.out.println(sentence + what + " answered " + got + ", due is " + want);
        }
    }

    static void due(String what, String got, String want) {
        checks++;
        if (!got.equals(want)) {
            wrong++;
            System.out.println(sentence + what + " is " + got + ", due is " + want);
        }
    }

    static void dueAsked(String what, AnnCups x, long got, long want, int asked) {
        due(what, got, want);
        due(what + ", asked()", x.asked(), asked);
    }

    static void duePart(String what, AnnCups x, long got, long up, long low) {
        due(what, got, 1);
        due(what + ", upper()", x.upper(), up);
        due(what + ", lower()", x.lower(), low);
    }

    /** The call is refused so, and a twin on which nothing was called can't be told from the object. */
    static void refused(String what, Setting setting, int answer, Call call) {
        compare(what, setting, answer, 0, call);
    }

    static void finds(String what, Setting setting, int finding, Call call) {
        compare(what, setting, FINDING, finding, call);
    }

    private static void compare(String what, Setting setting, int answer, int finding, Call call) {
        AnnCups x = setting.made();
        AnnCups twin = setting.made();
        due(what, call.of(x), answer);
        due(what + ": what is told", told(x), told(twin));
        due(what + ": FINDINGS", findings(x, 0), findings(twin, finding));
        due(what + ": what comes then", aftermath(x), aftermath(twin));
    }

    private static String told(AnnCups x) {
        return x.digest() + " " + x.asked() + " " + x.upper() + " " + x.lower() + " " + x.wrong() + " " + x.mends();
    }

    /** finding() and findings(), as if one more had been answered. */
    private static String findings(AnnCups x, int more) {
        StringBuilder s = new StringBuilder().append(more > 0 ? more : x.finding());
        for (int f = 1; f <= 5; f++) {
            s.append(' ').append(x.findings(f) + (f == more ? 1 : 0));
        }
        return s.toString();
    }

    /** Which DEEDS there were, now and in kept BARS, shows when they are undone. */
    private static String aftermath(AnnCups x) {
        StringBuilder s = new StringBuilder();
        for (int n = x.count(2); n >= 0; n--) {
            s.append(x.undo(n)).append(' ').append(x.digest()).append(' ');
        }
        for (int k = 0; k <= 2; k++) {
            s.append(x.on(k)).append(' ').append(x.digest()).append(' ');
            s.append(x.undo(x.count(2) / 2)).append(' ').append(x.digest()).append(' ');
        }
        return s.toString();
    }

    /** Numbers that are not from low to high: next to it, far away, and those that a cut or a shift would take for one. */
    static int[] outside(int low, int high) {
        int[] may = {LEAST, LEAST + low, -256, -10, -2, low - 1, high + 1, low + 32, high + 64, low + 256, high + 65536, MOST};
        List<Integer> list = new ArrayList<>();
        for (int v : may) {
            if (v < low || v > high) {
                list.add(v);
            }
        }
        int[] out = new int[list.size()];
        for (int k = 0; k < out.length; k++) {
            out[k] = list.get(k);
        }
        return out;
    }

    static AnnCups write(AnnCups x, int t, String s) {
        x.text(t, s.length());
        for (int i = 0; i < s.length(); i++) {
            if (s.charAt(i) != ' ') {
                x.put(t, i, s.charAt(i));
            }
        }
        return x;
    }

    static AnnCups bar(String s) {
        AnnCups x = write(new AnnCups(), 0, s);
        x.bar(0);
        return x;
    }

    static AnnCups lay(AnnCups x, int r, int... ints) {
        x.row(r, ints.length);
        for (int i = 0; i < ints.length; i++) {
            x.lay(r, i, ints[i]);
        }
        return x;
    }

    static AnnCups make(AnnCups x, int... cups) {
        for (int i : cups) {
            x.make(i);
        }
        return x;
    }

    static String show(AnnCups x, int r) {
        StringBuilder s = new StringBuilder();
        for (int i = 0; x.at(r, i) == 1; i++) {
            s.append(i == 0 ? "" : " ").append(x.asked());
        }
        return s.toString();
    }

    static int of(AnnCups x, int i, int what) {
        return x.cup(i, what) == 1 ? x.asked() : -77;
    }

    /** ROWS 0 (7 8 9), 1 (empty), 2 (seven), 3 (forty), 4 (2 3), none 5; TEXTS 1 (empty), 2 (a FAULT), none 3. */
    private static AnnCups furnish(AnnCups x) {
        lay(x, 0, 7, 8, 9);
        x.row(1, 0);
        lay(x, 2, 9, 9, 9, 9, 9, 9, 9);
        x.row(3, 40);
        lay(x, 4, 2, 3);
        x.text(1, 0);
        write(x, 2, "e0c1");
        x.mean(1);
        x.at(0, 1);
        return x;
    }

    /** No CUPS; asked() is 8, finding() NOUGHT. */
    static AnnCups bare() {
        return furnish(new AnnCups());
    }

    /**
     * The BAR ALL by TEXT 0; 1 holds CUP 1, 2 holds CUP 0 (and is WRONG), 0 has HAD something, CUP 4 is THROWN, CUPS 2, 3, 5
     * are not made, TIME is 16; kept BARS 0 (3 DEEDS) and 2 (5 DEEDS, as now); 25 by 144 is told.
     */
    static AnnCups busy() {
        AnnCups x = bar("e9c1000c1011c1022");
        x.odds(2, 5);
        write(x, 0, ALL);
        x.bar(0);
        make(x, 1, 4, 0);
        x.keep(0);
        x.change(0, 1);
        x.toss(4);
        x.keep(2);
        return furnish(x);
    }

    /** Forty DEEDS: CUP 0 STANDS, CUP 1 went to and fro between 0 and 1, CUP 2 is not made; kept BAR 1 has two DEEDS. */
    static AnnCups filled() {
        AnnCups x = make(bar("e0c1001c1000c1009"), 0, 1);
        x.keep(1);
        for (int k = 0; k < 38; k++) {
            x.change(0, 1);
        }
        return furnish(x);
    }

    /** Says how many checks there were; a quote that does not stand in the document, or a promise without one, is wrong. */
    static void end(int first, int last) throws Exception {
        sentence = "";
        for (int promise = first; promise <= last; promise++) {
            due("promise " + promise + " has a sentence", promises.contains(promise) ? 1 : 0, 1);
        }
        if (Files.exists(DOCUMENT)) {
            String document = Files.readString(DOCUMENT).replaceAll("\\s+", " ");
            for (String quote : quotes) {
                due("in the document: " + quote, document.contains(quote) ? 1 : 0, 1);
            }
        }
        System.out.println(quotes.size() + " sentences, " + checks + " checks, not as due: " + wrong);
        if (wrong != 0) {
            System.exit(1);
        }
    }
}
