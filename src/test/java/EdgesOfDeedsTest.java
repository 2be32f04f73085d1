/** Promises 15 to 20 and what the Terms say of CUPS that are MADE, CALLED, CHANGED, THROWN, and of DEEDS. */
public final class EdgesOfDeedsTest {
    private static final int BAD = Edges.BAD, FULL = Edges.FULL, STATE = Edges.STATE, NONE = Edges.NONE;
    private static final int NOTHING = Edges.NOTHING;

    public static void main(String[] args) throws Exception {
        atFirst();
        called();
        once();
        had();
        hands();
        fortyAtMost();
        whoIsWrong();
        make();
        makeRefused();
        change();
        changeRefused();
        toss();
        tossRefused();
        undo();
        undoRefused();
        keep();
        keepRefused();
        on();
        onRefused();
        Edges.end(15, 20);
    }

    private static void atFirst() {
        Edges.sentence(0, "TIME is 0 at first, nothing is made, nobody holds anything.");
        AnnCups x = Edges.bar(Edges.ALL);
        for (int what : new int[] {1, 2, 3, 4, 8, 11}) {
            Edges.due("count(" + what + ")", x.count(what), 0);
        }
        for (int p = 0; p < 6; p++) {
            Edges.due("holds(" + p + ")", x.holds(p), NONE);
            Edges.due("where CUP " + p + " is", Edges.of(x, p, 5), NONE);
        }
        Edges.due("wrong()", x.wrong(), 0);
    }

    private static void called() {
        Edges.sentence(0, "of those who are there and have HAD nothing, and whose NAME is ALIKE the WRITTEN one, the first "
            + "one holds it; nobody: it STANDS there.");
        AnnCups x = Edges.bar("e1g1055c1075c1065c1045c1055c1085");
        Edges.due("0 is not there, 1 is not ALIKE", x.make(1), 2);
        Edges.due("2 has HAD something", x.make(3), 3);
        Edges.due("then 4", x.make(0), 4);
        Edges.due("nobody", x.make(2), NONE);
        Edges.due("it STANDS", Edges.of(x, 2, 5), 6);
        Edges.due("another one", x.make(5), NONE);
        Edges.due("both STAND", x.count(4), 4 + 32);
        Edges.due("TIME", x.count(1), 5);
    }

    private static void once() {
        Edges.sentence(0, "Each CUP once.");
        AnnCups x = Edges.make(Edges.bar("e0c1000c1019"), 0, 1);
        for (int i = 0; i <= 1; i++) {
            Edges.due("make(" + i + ") again", x.make(i), STATE);
        }
        Edges.due("TIME", x.count(1), 2);
        Edges.due("DEEDS", x.count(2), 2);
    }

    private static void had() {
        Edges.sentence(0, "Who holds a CUP at some time has HAD something.");
        AnnCups x = Edges.bar("e0c1000c1010c1021c1030");
        x.make(0);
        Edges.due("who took it", x.count(8), 1);
        x.change(0, 1);
        Edges.due("who gave it, and who got it", x.count(8), 3);
        Edges.due("who gave it takes no other", x.make(1), NONE);
        Edges.due("who got it takes no other", x.make(2), NONE);
        x.change(1, 3);
        Edges.due("all through whose hands it went", x.count(8), 11);
        x.undo(1);
        Edges.due("undone, one alone", x.count(8), 1);
        x.undo(0);
        Edges.due("undone, nobody", x.count(8), 0);
        Edges.due("undone, it is taken again", x.make(1), 0);
    }

    private static void hands() {
        Edges.sentence(0, "A CHANGE: what two PEOPLE who are there hold (or nothing) changes hands.");
        AnnCups x = Edges.make(Edges.bar(Edges.THREE), 0, 1);
        x.change(0, 1);
        Edges.due("both held one", x.holds(0) * 10 + x.holds(1), 10);
        Edges.due("where CUP 0 is", Edges.of(x, 0, 5), 1);
        Edges.due("where CUP 1 is", Edges.of(x, 1, 5), 0);
        x.change(1, 2);
        Edges.due("1 holds nothing", x.holds(1), NONE);
        Edges.due("2 holds CUP 0", x.holds(2), 0);
        x.change(1, 0);
        Edges.due("0 holds nothing", x.holds(0), NONE);
        Edges.due("1 holds CUP 1", x.holds(1), 1);
        Edges.due("TIME stays", x.count(1), 2);
        Edges.sentence(0, "A CUP that STANDS is THROWN.");
        x = Edges.make(Edges.bar("e0c1009"), 0);
        x.toss(0);
        Edges.due("it STANDS no more", x.count(4), 0);
        Edges.due("it is THROWN", Edges.of(x, 0, 5), 7);
        Edges.due("it is made", x.count(3), 1);
        Edges.due("TIME stays", x.count(1), 1);
    }

    private static void fortyAtMost() {
        Edges.sentence(0, "These are DEEDS 0, 1, .. (40 at most).");
        AnnCups x = Edges.make(Edges.bar("e0c1009c1000c1018"), 0, 1);
        for (int n = 3; n <= 38; n++) {
            x.change(0, 1);
            Edges.due("DEEDS", x.count(2), n);
        }
        Edges.due("a CUP is made as DEED 38", x.make(2), NONE);
        Edges.due("one is THROWN as DEED 39", x.toss(0), 1);
        Edges.due("DEEDS", x.count(2), 40);
        Edges.due("another is THROWN", x.toss(2), FULL);
        Edges.due("a CHANGE", x.change(0, 1), FULL);
        Edges.due("LOTS", x.lots(1, 1), FULL);
        Edges.due("DEEDS", x.count(2), 40);
        Edges.due("DEED 39 is undone", x.undo(39), 1);
        Edges.due("another is THROWN", x.toss(2), 1);
        Edges.due("DEEDS", x.count(2), 40);
        x.undo(39);
        Edges.due("a CHANGE as DEED 39", x.change(0, 1), 0);
        Edges.due("DEEDS", x.count(2), 40);
        x.undo(38);
        x.change(0, 1);
        Edges.due("a CUP is made as DEED 39", x.make(2), NONE);
        Edges.due("DEEDS", x.count(2), 40);
        Edges.due("none is asked for more", x.wag(2) >= 0 ? 1 : 0, 1);
    }

    private static void whoIsWrong() {
        Edges.sentence(0, "WRONG is a PERSON who holds another's CUP.");
        AnnCups x = Edges.bar("e0c1001g1010c1022c1039c1045c1059");
        Edges.due("nobody holds anything", x.wrong(), 0);
        x.make(2);
        Edges.due("one holds the own CUP", x.wrong(), 0);
        x.make(3);
        Edges.due("one STANDS", x.wrong(), 0);
        x.make(1);
        Edges.due("one holds a GHOST's CUP", x.wrong(), 1);
        x.make(4);
        Edges.due("the last holds another's", x.wrong(), 1 + 32);
        x.change(4, 5);
        Edges.due("that is given back", x.wrong(), 1);
    }

    private static void make() {
        Edges.sentence(15, "A CUP is MADE, CALLED: who holds it (NONE: it STANDS).");
        AnnCups x = Edges.bar("e0c1005c1019c1029c1039c1049c1050");
        Edges.due("5 holds the first", x.make(0), 5);
        Edges.due("0 holds the last", x.make(5), 0);
        Edges.due("it STANDS", x.make(3), NONE);
        Edges.due("made", x.count(3), 1 + 8 + 32);
        Edges.due("TIME", x.count(1), 3);
        Edges.due("asked() is not told", Edges.bar("e0c1000").make(0), 0);
        x = Edges.bar("e0f9000f9111f9022f9133f9044f9155");
        Edges.make(x, 0, 1, 2, 3, 4, 5);
        Edges.due("the greatest TIME", x.count(1), 108);
    }

    private static void makeRefused() {
        Edges.sentence(15, "BAD; STATE: it is made; FULL: 40 DEEDS. (FULL last.)");
        for (int i : Edges.outside(0, 5)) {
            Edges.refused("make(" + i + ")", Edges::busy, BAD, x -> x.make(i));
        }
        for (int i : Edges.outside(0, 2)) {
            Edges.refused("make(" + i + "): BAD ahead of FULL", Edges::filled, BAD, x -> x.make(i));
        }
        Edges.refused("without CUPS", Edges::bare, BAD, x -> x.make(0));
        Edges.refused("one that another holds", Edges::busy, STATE, x -> x.make(0));
        Edges.refused("one that it is whose", Edges::busy, STATE, x -> x.make(1));
        Edges.refused("one that is THROWN", Edges::busy, STATE, x -> x.make(4));
        Edges.refused("one that STANDS, STATE ahead of FULL", Edges::filled, STATE, x -> x.make(0));
        Edges.refused("one that is held, STATE ahead of FULL", Edges::filled, STATE, x -> x.make(1));
        Edges.refused("FULL", Edges::filled, FULL, x -> x.make(2));
        AnnCups x = Edges.filled();
        x.undo(39);
        Edges.due("39 DEEDS", x.make(2), NONE);
        Edges.due("then 40", x.count(2), 40);
    }

    private static void change() {
        Edges.sentence(16, "A CHANGE: how many are WRONG then.");
        AnnCups x = Edges.make(Edges.bar("e0c1000c1011c1022c1033c1044c1055"), 0, 1, 2, 3, 4, 5);
        Edges.due("two", x.change(0, 5), 2);
        Edges.due("three", x.change(5, 1), 3);
        Edges.due("five", x.change(2, 3), 5);
        Edges.due("six", x.change(3, 4), 6);
        Edges.due("five", x.change(4, 3), 5);
        Edges.due("three", x.change(3, 2), 3);
        Edges.due("two", x.change(1, 5), 2);
        Edges.due("none", x.change(5, 0), 0);
        Edges.due("DEEDS", x.count(2), 14);
        x = Edges.make(Edges.bar(Edges.THREE), 1);
        Edges.due("one holds nothing, the first", x.change(0, 1), 1);
        Edges.due("one holds nothing, the second", x.change(0, 1), 0);
    }

    private static void changeRefused() {
        Edges.sentence(16, "BAD: also the same, one who is not there; STATE: neither holds anything; FULL. (FULL last.)");
        for (int p : Edges.outside(0, 5)) {
            Edges.refused("change(" + p + ", 1)", Edges::busy, BAD, x -> x.change(p, 1));
            Edges.refused("change(1, " + p + ")", Edges::busy, BAD, x -> x.change(1, p));
            Edges.refused("BAD ahead of STATE", Edges::busy, BAD, x -> x.change(p, 4));
            Edges.refused("BAD ahead of STATE", Edges::busy, BAD, x -> x.change(4, p));
            Edges.refused("change(" + p + ", " + p + ")", Edges::busy, BAD, x -> x.change(p, p));
        }
        for (int p : Edges.outside(0, 2)) {
            Edges.refused("change(" + p + ", 0): BAD ahead of FULL", Edges::filled, BAD, x -> x.change(p, 0));
            Edges.refused("change(0, " + p + "): BAD ahead of FULL", Edges::filled, BAD, x -> x.change(0, p));
        }
        Edges.refused("the same, who holds one", Edges::busy, BAD, x -> x.change(1, 1));
        Edges.refused("the same, BAD ahead of STATE", Edges::busy, BAD, x -> x.change(4, 4));
        Edges.refused("the same, BAD ahead of FULL", Edges::filled, BAD, x -> x.change(0, 0));
        Edges.refused("the second is not there", Edges::busy, BAD, x -> x.change(1, 3));
        Edges.refused("the first is not there", Edges::busy, BAD, x -> x.change(3, 1));
        Edges.refused("one is not there, BAD ahead of STATE", Edges::busy, BAD, x -> x.change(4, 3));
        Edges.refused("one is not there, BAD ahead of STATE", Edges::busy, BAD, x -> x.change(3, 4));
        Edges.refused("neither", Edges::busy, STATE, x -> x.change(4, 5));
        Edges.refused("neither, one gave it away", Edges::busy, STATE, x -> x.change(0, 4));
        Edges.refused("neither, STATE ahead of FULL", Edges::filled, STATE, x -> x.change(1, 2));
        Edges.refused("FULL", Edges::filled, FULL, x -> x.change(0, 1));
        Edges.refused("FULL", Edges::filled, FULL, x -> x.change(2, 0));
        Edges.refused("without CUPS", Edges::bare, BAD, x -> x.change(0, 1));
        AnnCups x = Edges.filled();
        x.undo(39);
        Edges.due("39 DEEDS", x.change(2, 1), 1);
        Edges.due("then 40", x.count(2), 40);
    }

    private static void toss() {
        Edges.sentence(17, "A CUP is THROWN: how many STAND yet.");
        AnnCups x = Edges.make(Edges.bar("e0c1009c1009c1009c1009c1009c1009"), 0, 1, 2, 3, 4, 5);
        int[] which = {5, 0, 3, 1, 4, 2};
        for (int k = 0; k < 6; k++) {
            Edges.due("toss(" + which[k] + ")", x.toss(which[k]), 5 - k);
        }
        Edges.due("DEEDS", x.count(2), 12);
        Edges.due("made", x.count(3), 63);
    }

    private static void tossRefused() {
        Edges.sentence(17, "BAD; STATE: it does not STAND; FULL. (FULL last.)");
        for (int i : Edges.outside(0, 5)) {
            Edges.refused("toss(" + i + ")", Edges::busy, BAD, x -> x.toss(i));
        }
        for (int i : Edges.outside(0, 2)) {
            Edges.refused("toss(" + i + "): BAD ahead of FULL", Edges::filled, BAD, x -> x.toss(i));
        }
        Edges.refused("one that is not made", Edges::busy, STATE, x -> x.toss(2));
        Edges.refused("one that another holds", Edges::busy, STATE, x -> x.toss(0));
        Edges.refused("one that it is whose", Edges::busy, STATE, x -> x.toss(1));
        Edges.refused("one that is THROWN", Edges::busy, STATE, x -> x.toss(4));
        Edges.refused("not made, STATE ahead of FULL", Edges::filled, STATE, x -> x.toss(2));
        Edges.refused("held, STATE ahead of FULL", Edges::filled, STATE, x -> x.toss(1));
        Edges.refused("FULL", Edges::filled, FULL, x -> x.toss(0));
        Edges.refused("without CUPS", Edges::bare, BAD, x -> x.toss(0));
        AnnCups x = Edges.filled();
        x.undo(39);
        Edges.due("39 DEEDS", x.toss(0), 0);
        Edges.due("then 40", x.count(2), 40);
    }

    private static void undo() {
        Edges.sentence(18, "DEEDS from number n on are undone: how many.");
        for (int n = 0; n <= 6; n++) {
            AnnCups x = Edges.bar("e0c1009c1000j6011c1122");
            long[] then = new long[7];
            then[0] = x.digest();
            x.make(0);
            then[1] = x.digest();
            x.make(1);
            then[2] = x.digest();
            x.toss(0);
            then[3] = x.digest();
            x.change(0, 2);
            then[4] = x.digest();
            x.make(3);
            then[5] = x.digest();
            x.make(2);
            then[6] = x.digest();
            Edges.due("undo(" + n + ")", x.undo(n), 6 - n);
            Edges.due("it is as it was", x.digest(), then[n]);
            Edges.due("DEEDS", x.count(2), n);
            Edges.due("nothing more", x.undo(n), 0);
        }
        AnnCups x = Edges.filled();
        Edges.due("none of forty", x.undo(40), 0);
        Edges.due("forty", x.undo(0), 40);
        Edges.due("none of none", x.undo(0), 0);
        Edges.due("it STANDS again", x.make(0), NONE);
        x = Edges.bar("e0c1009");
        x.lots(20, 3);
        Edges.due("LOTS, too, and those that did nothing", x.undo(1), 19);
        Edges.due("it STANDS", x.count(4), 1);
    }

    private static void undoRefused() {
        Edges.sentence(18, "are undone: how many. BAD.");
        for (int n : Edges.outside(0, 5)) {
            Edges.refused("undo(" + n + ") of 5", Edges::busy, BAD, x -> x.undo(n));
        }
        for (int n : Edges.outside(0, 40)) {
            Edges.refused("undo(" + n + ") of 40", Edges::filled, BAD, x -> x.undo(n));
        }
        for (int n : Edges.outside(0, 0)) {
            Edges.refused("undo(" + n + ") without CUPS", Edges::bare, BAD, x -> x.undo(n));
            Edges.refused("undo(" + n + ") of 0", () -> Edges.bar(Edges.ALL), BAD, x -> x.undo(n));
        }
    }

    private static void keep() {
        Edges.sentence(19, "The BAR (as it is, DEEDS) is kept in a place (0 .. 2): how many DEEDS.");
        AnnCups x = Edges.bar(Edges.RING);
        for (int k = 0; k <= 2; k++) {
            Edges.due("keep(" + k + ")", x.keep(k), k);
            Edges.due("kept BARS", x.count(11), k + 1);
            x.make(k);
        }
        Edges.due("keep(1) over another", x.keep(1), 3);
        Edges.due("kept BARS", x.count(11), 3);
        Edges.due("it is no DEED", x.count(2), 3);
        x.undo(0);
        int[] deeds = {0, 3, 2};
        for (int k = 0; k <= 2; k++) {
            Edges.due("on(" + k + "), what is undone is kept yet", x.on(k), deeds[k]);
        }
        x = Edges.filled();
        Edges.due("forty", x.keep(2), 40);
    }

    private static void keepRefused() {
        Edges.sentence(19, "how many DEEDS. BAD; STATE: no CUPS.");
        for (int k : Edges.outside(0, 2)) {
            Edges.refused("keep(" + k + ")", Edges::busy, BAD, x -> x.keep(k));
            Edges.refused("keep(" + k + "): BAD ahead of STATE", Edges::bare, BAD, x -> x.keep(k));
        }
        for (int k = 0; k <= 2; k++) {
            int place = k;
            Edges.refused("keep(" + k + ") without CUPS", Edges::bare, STATE, x -> x.keep(place));
            Edges.refused("keep(" + k + ") without CUPS", AnnCups::new, STATE, x -> x.keep(place));
        }
    }

    private static void on() {
        Edges.sentence(20, "The BAR is as it was kept: how many DEEDS.");
        for (int k = 0; k <= 2; k++) {
            AnnCups x = Edges.bar("e0c1009c1000j6011c1122");
            x.make(0);
            x.make(3);
            x.change(2, 3);
            x.toss(0);
            x.keep(k);
            long then = x.digest();
            int take = Edges.of(x, 2, 1);
            x.undo(0);
            Edges.make(x, 2, 1, 0);
            Edges.due("on(" + k + ")", x.on(k), 4);
            Edges.due("it is as it was", x.digest(), then);
            Edges.due("how long one TAKES", Edges.of(x, 2, 1), take);
            Edges.due("undone from there", x.undo(1), 3);
            Edges.due("and on again", x.on(k), 4);
            x.make(1);
            Edges.due("what comes then is not kept", x.on(k), 4);
            Edges.due("it is as it was", x.digest(), then);
        }
        AnnCups x = Edges.filled();
        Edges.due("from forty", x.on(1), 2);
        Edges.due("there is room", x.make(2), NONE);
        x.keep(0);
        x.undo(0);
        Edges.due("from none", x.on(0), 3);
    }

    private static void onRefused() {
        Edges.sentence(20, "how many DEEDS. BAD; NOTHING.");
        for (int k : Edges.outside(0, 2)) {
            Edges.refused("on(" + k + ")", Edges::busy, BAD, x -> x.on(k));
            Edges.refused("on(" + k + ")", Edges::bare, BAD, x -> x.on(k));
        }
        Edges.finds("a place in which none is", Edges::busy, NOTHING, x -> x.on(1));
        Edges.finds("a place in which none is", Edges::filled, NOTHING, x -> x.on(0));
        Edges.finds("a place in which none is", Edges::filled, NOTHING, x -> x.on(2));
        for (int k = 0; k <= 2; k++) {
            int place = k;
            Edges.finds("on(" + k + ") without CUPS", Edges::bare, NOTHING, x -> x.on(place));
            Edges.finds("on(" + k + ") behind a new BAR", () -> {
                AnnCups x = Edges.busy();
                x.keep(1);
                x.bar(0);
                return x;
            }, NOTHING, x -> x.on(place));
        }
    }
}
