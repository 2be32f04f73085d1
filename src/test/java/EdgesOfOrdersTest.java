/** Promises 21 to 29: in which order, and rings; every sentence that names a boundary case. */
public final class EdgesOfOrdersTest {
    private static final int BAD = Edges.BAD, STATE = Edges.STATE, SPENT = Edges.SPENT, NONE = Edges.NONE;
    private static final int NOTHING = Edges.NOTHING, UNLIKE = Edges.UNLIKE, SIZE = Edges.SIZE;
    private static final int LEAST = Edges.LEAST, MOST = Edges.MOST;
    private static final int[] NO_ROW = Edges.outside(0, 5);
    private static final String PAIRS = "e0c1001c1010c1023c1032c1045c1054";
    private static final String SIX_ROUND = "e0c1001c1012c1023c1034c1045c1050";

    public static void main(String[] args) throws Exception {
        firstOrder();
        least();
        leastToARow();
        latest();
        fewest();
        bestRefused();
        orders();
        ordersRefused();
        makes();
        makesEnds();
        makesRefused();
        done();
        doneJustSoMany();
        doneRefused();
        wrong();
        mends();
        mendsByNone();
        runs();
        runsNowhere();
        runsRefused();
        Edges.end(21, 29);
    }

    private static void dueOrder(String what, AnnCups x, int got, int want, String order) {
        Edges.due(what, got, want);
        Edges.due(what + ", the order", Edges.show(x, 5), order);
    }

    private static void firstOrder() {
        Edges.sentence(0, "all CUPS that are not made, each once; orders go by their first CUPS, then second ones, .., lesser "
            + "numbers ahead");
        AnnCups x = Edges.bar("e0c2000c2011c2022c2033c2044c2055");
        dueOrder("least", x, x.least(5), 42, "0 1 2 3 4 5");
        dueOrder("latest", x, x.latest(5), 12, "0 1 2 3 4 5");
        dueOrder("fewest", x, x.fewest(5), 0, "0 1 2 3 4 5");
        dueOrder("done", x, x.done(99, 5), 6, "0 1 2 3 4 5");
        Edges.make(x, 0, 3);
        dueOrder("least of four", x, x.least(5), 36, "1 2 4 5");
        dueOrder("latest of four", x, x.latest(5), 12, "1 2 4 5");
        dueOrder("fewest of four", x, x.fewest(5), 0, "1 2 4 5");
        dueOrder("done of four", x, x.done(99, 5), 4, "1 2 4 5");
        Edges.make(x, 1, 2, 4);
        dueOrder("least of one", x, x.least(5), 12, "5");
        x = Edges.bar("e0c3000c1011c1022c2033");
        dueOrder("short ones first, of two the lesser number", x, x.least(5), 14, "1 2 3 0");
    }

    private static void least() {
        Edges.sentence(21, "The least sum of TIMES at which they are done (those of GHOSTS left out)");
        AnnCups x = Edges.bar("e0g1000g9011g5022");
        dueOrder("GHOSTS alone", x, x.least(5), 0, "0 1 2");
        x = Edges.bar("e0g1000c2011g9022c1033");
        dueOrder("GHOSTS last", x, x.least(5), 4, "3 1 0 2");
        x = Edges.bar("e0g1100j8111");
        dueOrder("a GHOST ahead for its MILK", x, x.least(5), 5, "0 1");
        x = Edges.bar("e0g4100j8111");
        dueOrder("as good: the first order", x, x.least(5), 8, "0 1");
        x = Edges.bar("e0g5100j8111");
        dueOrder("a GHOST that takes too long", x, x.least(5), 8, "1 0");
        x = Edges.make(Edges.bar("e0c9000c5011"), 0);
        dueOrder("TIME is 9", x, x.least(5), 14, "1");
        x.make(1);
        dueOrder("all are made", x, x.least(5), 0, "");
        x = Edges.bar("e0c7000");
        dueOrder("one", x, x.least(5), 7, "0");
    }

    private static void leastToARow() {
        Edges.sentence(21, "the first such order comes to a ROW (anew).");
        for (int r = 0; r <= 5; r++) {
            AnnCups x = Edges.busy();
            int rows = x.count(9);
            int asked = x.asked();
            Edges.due("least(" + r + ")", x.least(r) > 0 ? 1 : 0, 1);
            Edges.due("ROWS", x.count(9), r == 5 ? rows + 1 : rows);
            Edges.due("asked() is not told", x.asked(), asked);
            Edges.due("DEEDS", x.count(2), 5);
            Edges.due("three CUPS are not made", x.at(r, 2), 1);
            Edges.due("no fourth place", x.at(r, 3), Edges.FINDING);
            Edges.make(x, 2, 3, 5);
            x.row(r, 40);
            Edges.due("none is left", x.least(r), 0);
            Edges.due("a ROW of none is there", x.mean(r), Edges.FINDING);
            Edges.due("it is shared among none", x.finding(), Edges.NOUGHT);
        }
        Edges.due("forty DEEDS are no matter", Edges.filled().least(0), 3);
    }

    private static void latest() {
        Edges.sentence(22, "The least TIME of the latest of these that is no GHOST's (TIME now: there is none)");
        AnnCups x = Edges.bar("e0g9000g9011");
        dueOrder("GHOSTS alone", x, x.latest(5), 0, "0 1");
        x.make(1);
        dueOrder("GHOSTS alone, TIME now", x, x.latest(5), 9, "0");
        x.make(0);
        dueOrder("none is left, TIME now", x, x.latest(5), 18, "");
        x = Edges.bar("e0g9000c2011");
        dueOrder("a GHOST behind", x, x.latest(5), 2, "1 0");
        x = Edges.bar("e0g4100j8111");
        dueOrder("as good: the first order", x, x.latest(5), 8, "0 1");
        x = Edges.bar("e0c9100j9111j9122");
        dueOrder("behind its MILK", x, x.latest(5), 17, "0 1 2");
        x = Edges.bar("e0j3100j9111j5122");
        dueOrder("the longest behind MILK", x, x.latest(5), 9, "0 1 2");
        x = Edges.bar("e0c5000");
        dueOrder("one", x, x.latest(5), 5, "0");
        x = Edges.make(Edges.bar("e0c5000c1011"), 0);
        dueOrder("TIME is 5", x, x.latest(5), 6, "1");
    }

    private static void fewest() {
        Edges.sentence(23, "The fewest who are WRONG behind all; the first such order comes to a ROW.");
        AnnCups x = Edges.bar(SIX_ROUND);
        dueOrder("six at any rate", x, x.fewest(5), 6, "0 1 2 3 4 5");
        x = Edges.bar("e9c1000c1000c1000");
        dueOrder("as they come", x, x.fewest(5), 0, "0 1 2");
        x = Edges.bar("e0c1005c1055");
        dueOrder("the second first", x, x.fewest(5), 0, "1 0");
        x.make(0);
        dueOrder("one is WRONG now", x, x.fewest(5), 1, "1");
        x.make(1);
        dueOrder("none is left", x, x.fewest(5), 1, "");
        x = Edges.bar("e9g1000c1000");
        dueOrder("a GHOST's CUP last", x, x.fewest(5), 0, "1 0");
        x = Edges.bar("e0g1000g1000");
        dueOrder("GHOSTS alone", x, x.fewest(5), 0, "0 1");
    }

    private static void bestRefused() {
        Edges.sentence(21, "comes to a ROW (anew). BAD; STATE: no CUPS.");
        dueBestRefused("least", (x, r) -> x.least(r));
        Edges.sentence(22, "the first such order comes to a ROW. BAD; STATE.");
        dueBestRefused("latest", (x, r) -> x.latest(r));
        Edges.sentence(23, "the first such order comes to a ROW. BAD; STATE.");
        dueBestRefused("fewest", (x, r) -> x.fewest(r));
    }

    private static void dueBestRefused(String name, java.util.function.ToIntBiFunction<AnnCups, Integer> best) {
        for (int r : NO_ROW) {
            Edges.refused(name + "(" + r + ")", Edges::busy, BAD, x -> best.applyAsInt(x, r));
            Edges.refused(name + "(" + r + "): BAD ahead of STATE", Edges::bare, BAD, x -> best.applyAsInt(x, r));
        }
        for (int r = 0; r <= 5; r++) {
            int row = r;
            Edges.refused(name + "(" + r + ") without CUPS", Edges::bare, STATE, x -> best.applyAsInt(x, row));
        }
    }

    private static void dueOrders(String bar, int[] made, long... want) {
        AnnCups x = Edges.make(Edges.bar(bar), made);
        for (int n = 0; n <= 6; n++) {
            Edges.duePart("orders(" + n + ") of " + bar, x, x.orders(n), n < want.length ? want[n] : 0, 1);
        }
    }

    private static void orders() {
        Edges.sentence(24, "How many orders there are behind which just n (0 .. 6) are WRONG, told by upper() (lower() is 1): 1.");
        dueOrders(SIX_ROUND, new int[0], 0, 0, 0, 0, 0, 0, 720);
        dueOrders(SIX_ROUND, new int[] {0, 1, 2, 3, 4, 5}, 0, 0, 0, 0, 0, 0, 1);
        dueOrders("e0c1000c1011c1022c1033c1044c1055", new int[0], 720);
        dueOrders("e0c1000", new int[0], 1);
        dueOrders("e0c1000", new int[] {0}, 1);
        dueOrders("e0c1005c1055", new int[0], 1, 1);
        dueOrders("e0c1005c1055", new int[] {0}, 0, 1);
        // three of one name: an order is a way to hand out, and only who stays put is not WRONG
        dueOrders("e0c1000c1000c1000", new int[0], 1, 0, 3, 2);
        // the third CUP of one name goes to nobody: 0 and 1 get two of the three
        dueOrders("e0c1000c1000g1000", new int[0], 1, 2, 3);
    }

    private static void ordersRefused() {
        Edges.sentence(24, "told by upper() (lower() is 1): 1. BAD; STATE.");
        for (int n : Edges.outside(0, 6)) {
            Edges.refused("orders(" + n + ")", Edges::busy, BAD, x -> x.orders(n));
            Edges.refused("orders(" + n + "): BAD ahead of STATE", Edges::bare, BAD, x -> x.orders(n));
        }
        for (int n = 0; n <= 6; n++) {
            int many = n;
            Edges.refused("orders(" + n + ") without CUPS", Edges::bare, STATE, x -> x.orders(many));
        }
    }

    private static void dueMakes(AnnCups x, int time, int wrong, int... cups) {
        Edges.lay(x, 5, cups);
        long before = x.digest();
        Edges.dueAsked("by " + java.util.Arrays.toString(cups), x, x.makes(5), time, wrong);
        Edges.due("nothing is done", x.digest(), before);
    }

    private static void makes() {
        Edges.sentence(25, "By a ROW of CUPS (0 to 6), made one behind the other as far as can be");
        AnnCups x = Edges.bar("e0c1001j6012c2123c1034c1045c1050");
        dueMakes(x, 0, 0);
        dueMakes(x, 1, 1, 0);
        dueMakes(x, 4, 2, 0, 1);
        dueMakes(x, 7, 2, 1, 0);
        dueMakes(x, 9, 6, 0, 1, 2, 3, 4, 5);
        dueMakes(x, 12, 6, 5, 4, 3, 2, 1, 0);
        x.make(5);
        dueMakes(x, 1, 1);
        dueMakes(x, 4, 2, 1);
        x = Edges.bar("e0c1000c1018");
        dueMakes(x, 2, 0, 0, 1);
        Edges.due("forty DEEDS are no matter", Edges.lay(Edges.filled(), 5, 2).makes(5), 3);
    }

    private static void makesEnds() {
        Edges.sentence(25, "(it ends ahead of the first one that is made): TIME then; how many are WRONG by asked().");
        AnnCups x = Edges.bar("e0c1001c2012c3020");
        dueMakes(x, 1, 1, 0, 0);
        dueMakes(x, 1, 1, 0, 0, 1, 2);
        dueMakes(x, 3, 2, 0, 1, 0, 2);
        dueMakes(x, 6, 3, 0, 1, 2, 2, 1, 0);
        x.make(1);
        dueMakes(x, 2, 1, 1);
        dueMakes(x, 2, 1, 1, 0, 2);
        dueMakes(x, 3, 2, 0, 1, 2);
        dueMakes(x, 6, 3, 0, 2, 1);
        Edges.make(x, 0, 2);
        dueMakes(x, 6, 3, 0);
        dueMakes(x, 6, 3, 0, 1, 2, 0, 1, 2);
    }

    private static Edges.Setting laid(Edges.Setting setting, int... cups) {
        return () -> {
            AnnCups x = Edges.lay(setting.made(), 5, cups);
            x.at(0, 1);
            return x;
        };
    }

    private static void makesRefused() {
        Edges.sentence(25, "BAD; STATE: no CUPS; NOTHING; SIZE: more than 6; UNLIKE: no CUP. (In this order.)");
        for (int r : NO_ROW) {
            Edges.refused("makes(" + r + ")", Edges::busy, BAD, x -> x.makes(r));
            Edges.refused("makes(" + r + "): BAD ahead of STATE", Edges::bare, BAD, x -> x.makes(r));
        }
        Edges.refused("STATE", Edges::bare, STATE, x -> x.makes(1));
        Edges.refused("STATE ahead of NOTHING", Edges::bare, STATE, x -> x.makes(5));
        Edges.refused("STATE ahead of SIZE, UNLIKE", Edges::bare, STATE, x -> x.makes(2));
        Edges.refused("STATE ahead of UNLIKE", Edges::bare, STATE, x -> x.makes(0));
        Edges.finds("NOTHING", Edges::busy, NOTHING, x -> x.makes(5));
        Edges.finds("seven, SIZE ahead of UNLIKE", Edges::busy, SIZE, x -> x.makes(2));
        Edges.finds("forty", Edges::busy, SIZE, x -> x.makes(3));
        Edges.finds("seven CUPS", laid(Edges::busy, 0, 1, 2, 3, 4, 5, 0), SIZE, x -> x.makes(5));
        for (int v : Edges.outside(0, 5)) {
            Edges.finds("no CUP: " + v, laid(Edges::busy, v), UNLIKE, x -> x.makes(5));
            Edges.finds("the last is no CUP: " + v, laid(Edges::busy, 2, 3, 5, 2, 3, v), UNLIKE, x -> x.makes(5));
        }
        for (int v : new int[] {-1, 3, 5, LEAST, MOST}) {
            Edges.finds("no CUP of three: " + v, laid(Edges::filled, 2, v), UNLIKE, x -> x.makes(5));
            Edges.finds("no CUP, where it has ended: " + v, laid(Edges::filled, 0, v), UNLIKE, x -> x.makes(5));
        }
    }

    private static void done() {
        Edges.sentence(26, "The most CUPS that can be done by a TIME (0 .. 99)");
        AnnCups x = Edges.bar("e0c9000c9011f9022c9033f9144d9055");
        dueOrder("by 0", x, x.done(0, 5), 0, "");
        dueOrder("by 7", x, x.done(7, 5), 0, "");
        dueOrder("by 8", x, x.done(8, 5), 0, "");
        dueOrder("by 9", x, x.done(9, 5), 1, "0");
        dueOrder("by 16", x, x.done(16, 5), 1, "0");
        dueOrder("by 17", x, x.done(17, 5), 2, "0 2");
        dueOrder("by 18", x, x.done(18, 5), 2, "0 1");
        dueOrder("by 62", x, x.done(62, 5), 5, "0 1 2 3 4");
        dueOrder("by 63", x, x.done(63, 5), 6, "0 1 2 3 4 5");
        dueOrder("by 99", x, x.done(99, 5), 6, "0 1 2 3 4 5");
        x = Edges.bar("e0g2000c3011");
        dueOrder("a GHOST's, too", x, x.done(4, 5), 1, "0");
        x = Edges.bar("e0f9000f9111f9022f9133f9044f9155");
        Edges.due("all by 99, one MILK behind the other", x.done(99, 5), 6);
        Edges.make(x, 0, 1, 2, 3, 4);
        Edges.due("TIME", x.count(1), 90);
        dueOrder("not one by 99", x, x.done(99, 5), 0, "");
    }

    private static void doneJustSoMany() {
        Edges.sentence(26, "the first such order of just so many comes to a ROW (anew).");
        AnnCups x = Edges.bar("e0c5000c1011c2022c1033");
        dueOrder("one", x, x.done(1, 5), 1, "1");
        dueOrder("two of two", x, x.done(2, 5), 2, "1 3");
        dueOrder("two of three", x, x.done(3, 5), 2, "1 2");
        dueOrder("three", x, x.done(4, 5), 3, "1 2 3");
        dueOrder("three of eight", x, x.done(8, 5), 3, "0 1 2");
        dueOrder("all", x, x.done(9, 5), 4, "0 1 2 3");
        Edges.make(x, 0, 1, 2, 3);
        x.row(5, 40);
        dueOrder("none is left", x, x.done(99, 5), 0, "");
        for (int r = 0; r <= 5; r++) {
            AnnCups y = Edges.busy();
            int rows = y.count(9);
            Edges.due("done(16, " + r + ")", y.done(16, r), 0);
            Edges.due("ROWS", y.count(9), r == 5 ? rows + 1 : rows);
            Edges.due("a ROW of none", y.mean(r), Edges.FINDING);
            Edges.due("DEEDS", y.count(2), 5);
        }
    }

    private static void doneRefused() {
        Edges.sentence(26, "BAD; STATE; SPENT: TIME is more now.");
        for (int time : Edges.outside(0, 99)) {
            Edges.refused("done(" + time + ", 0)", Edges::busy, BAD, x -> x.done(time, 0));
            Edges.refused("done(" + time + ", 0): BAD ahead of STATE", Edges::bare, BAD, x -> x.done(time, 0));
        }
        for (int r : NO_ROW) {
            Edges.refused("done(50, " + r + ")", Edges::busy, BAD, x -> x.done(50, r));
            Edges.refused("done(0, " + r + "): BAD ahead of SPENT", Edges::busy, BAD, x -> x.done(0, r));
            Edges.refused("done(0, " + r + "): BAD ahead of STATE", Edges::bare, BAD, x -> x.done(0, r));
        }
        Edges.refused("without CUPS", Edges::bare, STATE, x -> x.done(0, 0));
        Edges.refused("without CUPS", Edges::bare, STATE, x -> x.done(99, 5));
        for (int time = 0; time < 16; time++) {
            int by = time;
            Edges.refused("done(" + time + ", 0)", Edges::busy, SPENT, x -> x.done(by, 0));
            Edges.refused("done(" + time + ", 5)", Edges::busy, SPENT, x -> x.done(by, 5));
        }
        Edges.due("TIME is 16", Edges.busy().count(1), 16);
        Edges.due("by 16", Edges.busy().done(16, 0), 0);
        Edges.refused("TIME above 99", () -> Edges.make(Edges.bar("e0f9000f9111f9022f9133f9044f9155"), 0, 1, 2, 3, 4, 5),
            SPENT, x -> x.done(99, 0));
    }

    private static void wrong() {
        Edges.sentence(27, "PEOPLE (bits) who are WRONG.");
        Edges.due("without CUPS", new AnnCups().wrong(), 0);
        AnnCups x = Edges.bar(SIX_ROUND);
        int set = 0;
        for (int i = 0; i < 6; i++) {
            x.make(i);
            set += 1 << (i + 1) % 6;
            Edges.due("behind CUP " + i, x.wrong(), set);
        }
        Edges.due("nobody", Edges.make(Edges.bar(Edges.THREE), 0, 1, 2).wrong(), 0);
        Edges.refused("it changes nothing", Edges::busy, 4, y -> y.wrong());
    }

    private static void mends() {
        Edges.sentence(28, "The fewest CHANGES by which nobody is WRONG.");
        Edges.due("without CUPS", new AnnCups().mends(), 0);
        Edges.due("nothing is made", Edges.bar(Edges.RING).mends(), 0);
        Edges.due("nobody is WRONG", Edges.make(Edges.bar(Edges.THREE), 0, 1, 2).mends(), 0);
        AnnCups x = Edges.bar(SIX_ROUND);
        for (int i = 0; i < 5; i++) {
            x.make(i);
            Edges.due("a line of " + (i + 1), x.mends(), i + 1);
        }
        x.make(5);
        Edges.due("a ring of six", x.mends(), 5);
        x = Edges.bar(PAIRS);
        int[] due = {1, 1, 2, 2, 3, 3};
        for (int i = 0; i < 6; i++) {
            x.make(i);
            Edges.due("pairs, " + (i + 1) + " made", x.mends(), due[i]);
        }
        Edges.due("it changes nothing", x.count(2), 6);
        Edges.due("one that STANDS is no matter", Edges.make(Edges.bar("e0c1009c1008"), 0, 1).mends(), 0);
        x = Edges.make(Edges.bar("e0c1003c1014c1022c1030c1041"), 0, 1, 2, 3, 4);
        Edges.due("two rings that cross, one between", x.mends(), 2);
        Edges.due("forty DEEDS are no matter", Edges.filled().mends(), 1);
    }

    private static void mendsByNone() {
        Edges.sentence(28, "NONE: by none (a CUP that is held is of one who is not there).");
        AnnCups x = Edges.bar("e0g1001c1019c1032");
        x.make(0);
        Edges.due("1 holds the CUP of 0", x.mends(), NONE);
        x.change(1, 2);
        Edges.due("2 holds the CUP of 0", x.mends(), NONE);
        x.undo(0);
        Edges.due("nobody holds it", x.mends(), 0);
        x = Edges.make(Edges.bar("e0c1001c1010g1023c1032"), 0, 1);
        Edges.due("a ring without it", x.mends(), 1);
        x.make(2);
        Edges.due("and one that holds it", x.mends(), NONE);
        x = Edges.make(Edges.bar("e0g1009c1011"), 0, 1);
        Edges.due("it STANDS", x.mends(), 0);
        x.toss(0);
        Edges.due("it is THROWN", x.mends(), 0);
        x = Edges.make(Edges.bar("e0c1005c1011c1022c1033g1040c1054"), 4);
        Edges.due("the last GHOST, the first holds it", x.mends(), NONE);
    }

    private static void dueRuns(AnnCups x, int i, int want, int last) {
        Edges.dueAsked("runs(" + i + ")", x, x.runs(i), want, last);
    }

    private static void runs() {
        Edges.sentence(29, "How far a CUP that another holds runs: whose it is, whose that CUP is that this one holds, and so on, "
            + "till one holds nothing, or it comes round to who holds the first");
        AnnCups x = Edges.bar(SIX_ROUND);
        for (int i = 0; i < 5; i++) {
            x.make(i);
            dueRuns(x, i, i + 1, 0);
            dueRuns(x, 0, 1, 0);
        }
        x.make(5);
        for (int i = 0; i < 6; i++) {
            dueRuns(x, i, 5, (i + 2) % 6);
        }
        x = Edges.make(Edges.bar(PAIRS), 0, 1, 2, 3, 4, 5);
        for (int i = 0; i < 6; i++) {
            dueRuns(x, i, 1, i);
        }
        Edges.sentence(29, "(but for who holds the first; one who is not there, too;");
        x = Edges.bar("e0g1001c1012c1023c1039");
        Edges.make(x, 0, 1, 2);
        dueRuns(x, 0, 1, 0);
        dueRuns(x, 1, 2, 0);
        dueRuns(x, 2, 3, 0);
    }

    private static void runsNowhere() {
        Edges.sentence(29, "0: nobody holds it, or whose it is); the last of them by asked() (NONE: none).");
        AnnCups x = Edges.make(Edges.bar("e0c1000c1018c1021"), 0);
        dueRuns(x, 0, 0, NONE);
        dueRuns(x, 1, 0, NONE);
        x.make(1);
        dueRuns(x, 1, 0, NONE);
        x.toss(1);
        dueRuns(x, 1, 0, NONE);
        x.make(2);
        dueRuns(x, 2, 1, 2);
        x.change(1, 2);
        dueRuns(x, 2, 0, NONE);
    }

    private static void runsRefused() {
        Edges.sentence(29, "(NONE: none). BAD.");
        for (int i : Edges.outside(0, 5)) {
            Edges.refused("runs(" + i + ")", Edges::busy, BAD, x -> x.runs(i));
        }
        for (int i : Edges.outside(0, 2)) {
            Edges.refused("runs(" + i + ") of three", Edges::filled, BAD, x -> x.runs(i));
        }
        Edges.refused("without CUPS", Edges::bare, BAD, x -> x.runs(0));
    }
}
