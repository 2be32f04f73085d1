/** Promises 40 to 46 and what the Terms say of refusals, FINDINGS and numbers that are told by two. */
public final class EdgesOfAnswersTest {
    private static final int BAD = Edges.BAD, NONE = Edges.NONE;
    private static final int NOTHING = Edges.NOTHING, BEYOND = Edges.BEYOND, UNLIKE = Edges.UNLIKE;
    private static final int NOUGHT = Edges.NOUGHT, SIZE = Edges.SIZE, LEAST = Edges.LEAST, MOST = Edges.MOST;

    public static void main(String[] args) throws Exception {
        constants();
        eachFinding();
        lowestTerms();
        asked();
        askedOfOthers();
        upperAndLower();
        count();
        countAtMost();
        countRefused();
        finding();
        findings();
        findingsRefused();
        digestOfNothing();
        digestOfEach();
        digestWraps();
        digestChangesNothing();
        Edges.end(40, 46);
    }

    private static void constants() {
        Edges.sentence(0, "BAD -1 (a number that is none, or not as told), FULL -2, STATE -4 (not now), SPENT -6 (more than told), "
            + "FINDING -3 (finding() tells which), unless a call says so otherwise. NONE -9.");
        Edges.due("BAD", AnnCups.BAD, -1);
        Edges.due("FULL", AnnCups.FULL, -2);
        Edges.due("FINDING", AnnCups.FINDING, -3);
        Edges.due("STATE", AnnCups.STATE, -4);
        Edges.due("SPENT", AnnCups.SPENT, -6);
        Edges.due("NONE", AnnCups.NONE, -9);
    }

    private static void eachFinding() {
        Edges.sentence(0, "1 NOTHING (a ROW, a TEXT, a kept BAR that is missing)");
        Edges.finds("a ROW", Edges::busy, 1, x -> x.at(5, 0));
        Edges.finds("a TEXT", Edges::busy, 1, x -> x.fault(3));
        Edges.finds("a kept BAR", Edges::busy, 1, x -> x.on(1));
        Edges.sentence(0, "2 BEYOND (a place of a ROW, a TEXT that there is not)");
        Edges.finds("of a ROW", Edges::busy, 2, x -> x.at(0, 3));
        Edges.finds("of a TEXT", Edges::busy, 2, x -> x.put(2, 4, 0));
        Edges.sentence(0, "3 UNLIKE (a CUP of another KIND; a number that is none)");
        Edges.finds("a CUP of another KIND", Edges::busy, 3, x -> x.mark(0, 1));
        Edges.finds("a number that is none", Edges::busy, 3, x -> x.makes(0));
        Edges.sentence(0, "4 NOUGHT (shared among none)");
        Edges.finds("a mean of none", Edges::busy, 4, x -> x.mean(1));
        Edges.sentence(0, "5 SIZE (fewer than none; too many, not as many as due)");
        Edges.finds("fewer than none", Edges::busy, 5, x -> x.row(0, -1));
        Edges.finds("too many", Edges::busy, 5, x -> x.makes(2));
        Edges.finds("not as many as due", Edges::busy, 5, x -> x.ears(0));
    }

    private static void lowestTerms() {
        Edges.sentence(0, "told by upper(), lower(), in lowest terms, the lower number above 0 (0 by 1).");
        AnnCups x = Edges.bar("e9c1000c1000c1000c1000c1000c1000");
        Edges.duePart("0 of 12", x, x.odds(5, 0), 0, 1);
        Edges.duePart("12 of 12", x, x.odds(5, 12), 1, 1);
        Edges.duePart("6 of 12, five times", x, x.odds(5, 6), 1, 32);
        Edges.duePart("11 of 12, five times", x, x.odds(5, 11), 161051, 248832);
        Edges.duePart("9 of 12, five times", x, x.odds(5, 9), 243, 1024);
        Edges.duePart("orders that there are not", x, x.orders(1), 0, 1);
        Edges.duePart("orders", x, x.orders(0), 1, 1);
        Edges.duePart("a mean of 0", x, x.mid(0), 0, 1);
    }

    private static void asked() {
        Edges.sentence(40, "What the latest lay(), at(), mean(), cup(), makes(), runs(), alike(), give() that was not refused told; "
            + "0 before.");
        Edges.due("before", new AnnCups().asked(), 0);
        AnnCups x = Edges.bar(Edges.RING);
        Edges.due("a BAR tells nothing", x.asked(), 0);
        Edges.lay(x, 0, 5, 9);
        x.lay(0, 0, 6);
        Edges.due("lay()", x.asked(), 5);
        x.at(0, 1);
        Edges.due("at()", x.asked(), 9);
        x.mean(0);
        Edges.due("mean()", x.asked(), 7);
        x.cup(2, 3);
        Edges.due("cup()", x.asked(), 2);
        Edges.lay(x, 1, 0, 1, 2);
        x.makes(1);
        Edges.due("makes()", x.asked(), 3);
        x.runs(0);
        Edges.due("runs() of one that nobody holds", x.asked(), NONE);
        x.give();
        Edges.due("give()", x.asked(), 0);
        x.alike();
        Edges.due("alike() of none", x.asked(), NONE);
        Edges.make(x, 0, 1);
        x.runs(1);
        Edges.due("runs()", x.asked(), 0);
        Edges.lay(x, 2, LEAST);
        x.at(2, 0);
        Edges.due("the least", x.asked(), LEAST);
    }

    private static void askedOfOthers() {
        Edges.sentence(40, "that was not refused told");
        Edges.Call[] refused = {y -> y.lay(6, 0, 0), y -> y.lay(5, 0, 0), y -> y.lay(0, 3, 0), y -> y.at(-1, 0), y -> y.at(5, 0),
            y -> y.at(0, -1), y -> y.mean(6), y -> y.mean(5), y -> y.mean(1), y -> y.cup(6, 0), y -> y.cup(0, 6),
            y -> y.makes(6), y -> y.makes(5), y -> y.makes(2), y -> y.makes(0), y -> y.runs(6)};
        AnnCups x = Edges.busy();
        for (int k = 0; k < refused.length; k++) {
            Edges.due("call " + k + " is refused", refused[k].of(x) < 0 ? 1 : 0, 1);
            Edges.due("behind refused call " + k, x.asked(), 8);
        }
        Edges.due("give() without CUPS", Edges.bare().give(), Edges.STATE);
        Edges.Call[] others = {y -> y.row(5, 3), y -> y.copy(0, 0, 5, 0, 3), y -> y.text(3, 5), y -> y.put(3, 0, 7), y -> y.fault(0),
            y -> y.mark(1, 1), y -> y.holds(2), y -> y.least(5), y -> y.latest(5), y -> y.fewest(5), y -> y.orders(1),
            y -> y.done(99, 5), y -> y.wrong(), y -> y.mends(), y -> y.whose(0), y -> y.reach(0), y -> y.ears(1),
            y -> y.kinds(0, 4, 1), y -> y.wag(2), y -> y.odds(2, 5), y -> y.mid(5), y -> y.make(2), y -> y.change(1, 2),
            y -> y.undo(6), y -> y.keep(1), y -> y.on(0), y -> y.toss(4), y -> y.lots(3, 9), y -> y.upper(), y -> y.lower(),
            y -> y.count(3), y -> y.finding(), y -> y.findings(1), y -> y.digest(), y -> y.tear(5), y -> y.bar(0)};
        for (int k = 0; k < others.length; k++) {
            others[k].of(x);
            Edges.due("behind call " + k + " that tells nothing", x.asked(), 8);
        }
    }

    private static void upperAndLower() {
        Edges.sentence(41, "The upper number that was told last; 0 before.");
        Edges.due("before", new AnnCups().upper(), 0);
        Edges.due("before, of a BAR", Edges.bar(Edges.ALL).upper(), 0);
        AnnCups x = Edges.busy();
        Edges.due("by odds()", x.upper(), 25);
        Edges.sentence(42, "Its lower number; 1 before.");
        Edges.due("before", new AnnCups().lower(), 1);
        Edges.due("before, of a BAR", Edges.bar(Edges.ALL).lower(), 1);
        Edges.due("by odds()", x.lower(), 144);
        Edges.Call[] refused = {y -> y.odds(6, 5), y -> y.odds(2, 13), y -> y.odds(0, 5), y -> y.mid(13), y -> y.orders(7),
            y -> y.orders(-1)};
        for (int k = 0; k < refused.length; k++) {
            Edges.due("call " + k + " is refused", refused[k].of(x) < 0 ? 1 : 0, 1);
            Edges.due("upper() behind refused call " + k, x.upper(), 25);
            Edges.due("lower() behind refused call " + k, x.lower(), 144);
        }
        x.bar(0);
        x.least(0);
        x.mean(3);
        Edges.due("upper() behind others", x.upper(), 25);
        Edges.due("lower() behind others", x.lower(), 144);
        x.orders(6);
        Edges.due("upper() of none", x.upper(), 0);
        Edges.due("lower() of none", x.lower(), 1);
    }

    private static void dueCounts(String what, AnnCups x, int... want) {
        for (int k = 0; k < want.length; k++) {
            Edges.due(what + ", count(" + k + ")", x.count(k), want[k]);
        }
    }

    private static void count() {
        Edges.sentence(43, "0 CUPS, 1 TIME, 2 DEEDS, 3 CUPS made (bits), 4 that STAND (bits), 5 EARS, 6 JUGS (FOAMS, too), 7 TEAS "
            + "(DECAFS, too), 8 PEOPLE who have HAD something (bits), 9 ROWS, 10 TEXTS that are there, 11 kept BARS.");
        dueCounts("at first", new AnnCups(), 0, 0, 0, 0, 0, 0, 0, 0, 0, 0, 0, 0);
        dueCounts("without CUPS", Edges.bare(), 0, 0, 0, 0, 0, 0, 0, 0, 0, 5, 2, 0);
        dueCounts("a BAR", Edges.bar(Edges.ALL), 6, 0, 0, 0, 0, 1, 2, 2, 0, 0, 1, 0);
        dueCounts("with DEEDS", Edges.busy(), 6, 16, 5, 1 + 2 + 16, 0, 1, 2, 2, 1 + 2 + 4, 5, 3, 2);
        dueCounts("with forty", Edges.filled(), 3, 2, 40, 3, 1, 0, 0, 0, 3, 5, 3, 1);
    }

    private static void countAtMost() {
        Edges.sentence(43, "3 CUPS made (bits), 4 that STAND (bits), 5 EARS, 6 JUGS (FOAMS, too), 7 TEAS (DECAFS, too)");
        AnnCups x = Edges.make(Edges.bar("e9f9000j9000f9000j9000f9000j9000"), 0, 1, 2, 3, 4, 5);
        for (int r = 0; r <= 5; r++) {
            x.row(r, 0);
        }
        for (int t = 1; t <= 3; t++) {
            x.text(t, 0);
        }
        for (int k = 0; k <= 2; k++) {
            x.keep(k);
        }
        dueCounts("all JUGS", x, 6, 18 + 4 + 8 + 4 + 8 + 4, 6, 63, 0, 9, 6, 0, 63, 6, 4, 3);
        x = Edges.make(Edges.bar("e0g9001t9001d9001t9001d9001t9001"), 0, 1, 2, 3, 4, 5);
        dueCounts("all STAND", x, 6, 9 + 7 + 10 + 7 + 10 + 7, 6, 63, 63, 0, 0, 5, 0, 0, 1, 0);
        x = Edges.bar("e0c9000g1000c1000");
        dueCounts("neither JUGS nor TEAS", x, 3, 0, 0, 0, 0, 0, 0, 0, 0, 0, 1, 0);
    }

    private static void countRefused() {
        Edges.sentence(43, "11 kept BARS. BAD.");
        for (int what : Edges.outside(0, 11)) {
            Edges.refused("count(" + what + ")", Edges::busy, BAD, x -> x.count(what));
            Edges.refused("count(" + what + ")", AnnCups::new, BAD, x -> x.count(what));
        }
    }

    private static void finding() {
        Edges.sentence(44, "The latest FINDING (0 before any).");
        AnnCups x = Edges.bar(Edges.ALL);
        Edges.due("before any", x.finding(), 0);
        x.make(9);
        x.toss(0);
        x.done(-1, 0);
        Edges.due("before any, other refusals", x.finding(), 0);
        x.mark(0, 1);
        Edges.due("UNLIKE", x.finding(), UNLIKE);
        x.row(0, -1);
        Edges.due("SIZE", x.finding(), SIZE);
        x.row(0, 0);
        Edges.due("it stays", x.finding(), SIZE);
        x.mean(0);
        Edges.due("NOUGHT", x.finding(), NOUGHT);
        x.at(0, 0);
        Edges.due("BEYOND", x.finding(), BEYOND);
        x.at(1, 0);
        Edges.due("NOTHING", x.finding(), NOTHING);
        x.row(9, -1);
        x.bar(0);
        Edges.due("it stays behind BAD and a new BAR", x.finding(), NOTHING);
    }

    private static void findings() {
        Edges.sentence(45, "How often a FINDING (1 .. 5) was answered.");
        AnnCups x = Edges.bar(Edges.ALL);
        Edges.Call[] by = {y -> y.at(0, 0), y -> y.at(1, 1), y -> y.mark(0, 3), y -> y.mean(2), y -> y.text(0, -1)};
        for (int f = 1; f <= 5; f++) {
            Edges.due("findings(" + f + ") before", x.findings(f), 0);
        }
        x.row(1, 1);
        x.row(2, 0);
        for (int f = 1; f <= 5; f++) {
            for (int k = 1; k <= f + 1; k++) {
                Edges.due("FINDING " + f, by[f - 1].of(x), Edges.FINDING);
                for (int g = 1; g <= 5; g++) {
                    Edges.due("findings(" + g + ")", x.findings(g), g < f ? g + 1 : g == f ? k : 0);
                }
            }
        }
        x.bar(0);
        Edges.due("a new BAR leaves them", x.findings(5), 6);
    }

    private static void findingsRefused() {
        Edges.sentence(45, "was answered. BAD.");
        for (int f : Edges.outside(1, 5)) {
            Edges.refused("findings(" + f + ")", Edges::busy, BAD, x -> x.findings(f));
            Edges.refused("findings(" + f + ")", AnnCups::new, BAD, x -> x.findings(f));
        }
    }

    private static long mix(long h, long... values) {
        long mixed = h;
        for (long v : values) {
            mixed = 31 * mixed + v;
        }
        return mixed;
    }

    private static void digestOfNothing() {
        Edges.sentence(46, "h = 17; then h = 31 h + v for each v: count() 0 to 11;");
        long none = mix(17, 0, 0, 0, 0, 0, 0, 0, 0, 0, 0, 0, 0, -1, -1, -1, -1, -1, -1, -1, -1, -1, -1, -1, -1, -1);
        Edges.due("of a new object", new AnnCups().digest(), none);
        AnnCups x = new AnnCups();
        for (int r = 0; r <= 5; r++) {
            x.row(r, 0);
        }
        for (int t = 0; t <= 3; t++) {
            x.text(t, 0);
        }
        long empty = mix(17, 0, 0, 0, 0, 0, 0, 0, 0, 0, 6, 4, 0, -1, -1, -1, 0, 0, 0, 0, 0, 0, 0, 0, 0, 0);
        Edges.due("of empty ROWS, TEXTS", x.digest(), empty);
        for (int r = 0; r <= 5; r++) {
            x.tear(r);
        }
        long torn = mix(17, 0, 0, 0, 0, 0, 0, 0, 0, 0, 0, 4, 0, -1, -1, -1, -1, -1, -1, -1, -1, -1, 0, 0, 0, 0);
        Edges.due("of torn ROWS", x.digest(), torn);
    }

    private static void digestOfEach() {
        Edges.sentence(46, "of each CUP cup() 0 to 5; of each PERSON holds(); of each kept BAR how many DEEDS (-1: missing); of each ROW "
            + "its size (-1: missing) and places, of each TEXT likewise.");
        AnnCups x = Edges.busy();
        long h = mix(17, 6, 16, 5, 19, 0, 1, 2, 2, 7, 5, 3, 2);
        h = mix(h, 0, 4, 0, 3, 3, 2);
        h = mix(h, 1, 6, 1, 1, 4, 1);
        h = mix(h, 2, 3, 0, 2, 6, NONE);
        h = mix(h, 3, 3, 1, 5, 5, NONE);
        h = mix(h, 4, 14, 1, 5, 7, 7);
        h = mix(h, 5, 4, 0, 9, 8, NONE);
        h = mix(h, NONE, 1, 0, NONE, NONE, NONE);
        h = mix(h, 3, -1, 5);
        h = mix(h, 3, 7, 8, 9);
        h = mix(h, 0);
        h = mix(h, 7, 9, 9, 9, 9, 9, 9, 9);
        h = mix(mix(h, 40), new long[40]);
        h = mix(h, 2, 2, 3);
        h = mix(h, -1);
        h = mix(h, Edges.ALL.length());
        for (char c : Edges.ALL.toCharArray()) {
            h = mix(h, c);
        }
        h = mix(h, 0);
        h = mix(h, 4, 'e', '0', 'c', '1');
        h = mix(h, -1);
        Edges.due("of a BAR", x.digest(), h);
    }

    private static void digestWraps() {
        Edges.sentence(46, "h = 31 h + v");
        AnnCups x = new AnnCups();
        x.row(5, 40);
        x.text(0, 60);
        long h = mix(17, 0, 0, 0, 0, 0, 0, 0, 0, 0, 1, 1, 0, -1, -1, -1, -1, -1, -1, -1, -1, 40);
        for (int i = 0; i < 40; i++) {
            x.lay(5, i, i % 2 == 0 ? LEAST : MOST);
            h = mix(h, i % 2 == 0 ? LEAST : MOST);
        }
        h = mix(h, 60);
        for (int i = 0; i < 60; i++) {
            x.put(0, i, 100 + i);
            h = mix(h, (byte) (100 + i));
        }
        Edges.due("ints and bytes with their signs", x.digest(), mix(h, -1, -1, -1));
    }

    private static void digestChangesNothing() {
        Edges.sentence(46, "h = 17; then h = 31 h + v for each v");
        for (Edges.Setting setting : new Edges.Setting[] {AnnCups::new, Edges::bare, Edges::busy, Edges::filled}) {
            AnnCups x = setting.made();
            int asked = x.asked();
            long first = x.digest();
            Edges.due("asked() behind digest()", x.asked(), asked);
            Edges.due("the same again", x.digest(), first);
            Edges.due("the same of a twin", setting.made().digest(), first);
        }
    }
}
