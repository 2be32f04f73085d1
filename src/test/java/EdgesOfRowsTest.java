/** Promises 1 to 9 and what the Terms say of ROWS and TEXTS: every sentence that names a boundary case. */
public final class EdgesOfRowsTest {
    private static final int BAD = Edges.BAD, NOTHING = Edges.NOTHING, BEYOND = Edges.BEYOND, NOUGHT = Edges.NOUGHT;
    private static final int SIZE = Edges.SIZE, FINDING = Edges.FINDING, LEAST = Edges.LEAST, MOST = Edges.MOST;
    private static final int[] NO_ROW = Edges.outside(0, 5), NO_TEXT = Edges.outside(0, 3);
    private static final Edges.Setting[] ANY = {AnnCups::new, Edges::bare, Edges::busy, Edges::filled};

    public static void main(String[] args) throws Exception {
        missingAtFirst();
        newObject();
        row();
        rowRefused();
        lay();
        layRefused();
        at();
        tear();
        copy();
        copyBeyond();
        copyRefused();
        mean();
        meanRefused();
        text();
        textRefused();
        put();
        putRefused();
        Edges.end(0, 9);
    }

    private static void missingAtFirst() {
        Edges.sentence(0, "ROWS 0 .. 5 are rows of 0 to 40 ints, TEXTS 0 .. 3 rows of 0 to 60 bytes, or missing (at first).");
        for (int r = 0; r <= 5; r++) {
            int row = r;
            Edges.finds("at(" + r + ", 0)", AnnCups::new, NOTHING, x -> x.at(row, 0));
            AnnCups x = new AnnCups();
            Edges.due("row(" + r + ", 0)", x.row(r, 0), 0);
            Edges.due("row(" + r + ", 40)", x.row(r, 40), 40);
        }
        for (int t = 0; t <= 3; t++) {
            int text = t;
            Edges.finds("put(" + t + ", 0, 1)", AnnCups::new, NOTHING, x -> x.put(text, 0, 1));
            AnnCups x = new AnnCups();
            Edges.due("text(" + t + ", 0)", x.text(t, 0), 0);
            Edges.due("text(" + t + ", 60)", x.text(t, 60), 60);
        }
        AnnCups x = new AnnCups();
        for (int r = 0; r <= 5; r++) {
            x.row(r, r);
            Edges.due("how many ROWS there are", x.count(9), r + 1);
        }
        for (int t = 0; t <= 3; t++) {
            x.text(t, t);
            Edges.due("how many TEXTS there are", x.count(10), t + 1);
        }
    }

    private static void newObject() {
        Edges.sentence(1, "No ROWS, TEXTS, CUPS.");
        AnnCups x = new AnnCups();
        Edges.due("ROWS", x.count(9), 0);
        Edges.due("TEXTS", x.count(10), 0);
        Edges.due("CUPS", x.count(0), 0);
        Edges.refused("cup(0, 0)", AnnCups::new, BAD, y -> y.cup(0, 0));
        Edges.refused("holds(0)", AnnCups::new, BAD, y -> y.holds(0));
        Edges.refused("make(0)", AnnCups::new, BAD, y -> y.make(0));
        AnnCups other = Edges.busy();
        Edges.due("another one that is used leaves it new", new AnnCups().digest(), x.digest());
        Edges.due("the used one is another", other.digest() == x.digest() ? 1 : 0, 0);
    }

    private static void row() {
        Edges.sentence(2, "A ROW is there with n ints 0: n.");
        for (int n : new int[] {0, 1, 2, 39, 40}) {
            AnnCups x = Edges.bare();
            Edges.lay(x, 3, 5, 5, 5);
            Edges.due("row(3, " + n + ")", x.row(3, n), n);
            for (int i = 0; i < n; i++) {
                Edges.dueAsked("at(3, " + i + ") of " + n, x, x.at(3, i), 1, 0);
            }
            Edges.due("at(3, " + n + ") of " + n, x.at(3, n), FINDING);
            Edges.due("ROWS", x.count(9), 5);
        }
        AnnCups x = new AnnCups();
        x.row(0, 40);
        x.lay(0, 39, 6);
        x.row(0, 1);
        x.row(0, 40);
        Edges.dueAsked("what a longer one had is gone", x, x.at(0, 39), 1, 0);
    }

    private static void rowRefused() {
        Edges.sentence(2, "BAD: also n above 40; SIZE: below 0.");
        for (Edges.Setting setting : ANY) {
            for (int n : new int[] {41, 42, 60, 296, 65536 + 40, MOST}) {
                Edges.refused("row(0, " + n + ")", setting, BAD, x -> x.row(0, n));
            }
            for (int n : new int[] {-1, -2, -256, -65536, LEAST + 1, LEAST}) {
                Edges.finds("row(0, " + n + ")", setting, SIZE, x -> x.row(0, n));
            }
            for (int r : NO_ROW) {
                Edges.refused("row(" + r + ", 1)", setting, BAD, x -> x.row(r, 1));
                Edges.refused("row(" + r + ", 41)", setting, BAD, x -> x.row(r, 41));
                Edges.refused("row(" + r + ", -1): BAD ahead of SIZE", setting, BAD, x -> x.row(r, -1));
            }
        }
    }

    private static void lay() {
        Edges.sentence(3, "Place i of a ROW is v: what it was, told by asked(): 1.");
        AnnCups x = new AnnCups();
        x.row(5, 40);
        int before = 0;
        for (int v : new int[] {LEAST, MOST, -1, 0, 1, 256}) {
            Edges.dueAsked("lay(5, 39, " + v + ")", x, x.lay(5, 39, v), 1, before);
            Edges.dueAsked("at(5, 39)", x, x.at(5, 39), 1, v);
            Edges.dueAsked("the place ahead of it", x, x.at(5, 38), 1, 0);
            before = v;
        }
        Edges.dueAsked("lay(5, 0, 3)", x, x.lay(5, 0, 3), 1, 0);
        Edges.dueAsked("lay(5, 0, 4)", x, x.lay(5, 0, 4), 1, 3);
    }

    private static void layRefused() {
        Edges.sentence(3, "told by asked(): 1. BAD; NOTHING; BEYOND.");
        for (int r : NO_ROW) {
            Edges.refused("lay(" + r + ", 0, 1)", Edges::busy, BAD, x -> x.lay(r, 0, 1));
            Edges.refused("lay(" + r + ", -1, 1)", Edges::bare, BAD, x -> x.lay(r, -1, 1));
        }
        Edges.finds("a missing one", Edges::busy, NOTHING, x -> x.lay(5, 0, 1));
        Edges.finds("a missing one, NOTHING ahead of BEYOND", Edges::busy, NOTHING, x -> x.lay(5, -1, 1));
        Edges.finds("a missing one, NOTHING ahead of BEYOND", Edges::busy, NOTHING, x -> x.lay(5, 40, 1));
        for (int i : Edges.outside(0, 2)) {
            Edges.finds("lay(0, " + i + ", 1)", Edges::busy, BEYOND, x -> x.lay(0, i, 1));
        }
        for (int i : Edges.outside(0, 39)) {
            Edges.finds("lay(3, " + i + ", 1)", Edges::busy, BEYOND, x -> x.lay(3, i, 1));
        }
        Edges.finds("an empty one", Edges::busy, BEYOND, x -> x.lay(1, 0, 1));
    }

    private static void at() {
        Edges.sentence(4, "Place i of a ROW, told by asked(): 1. BAD; NOTHING; BEYOND.");
        AnnCups x = Edges.bare();
        Edges.dueAsked("at(0, 0)", x, x.at(0, 0), 1, 7);
        Edges.dueAsked("at(0, 2)", x, x.at(0, 2), 1, 9);
        Edges.dueAsked("it stays", x, x.at(0, 2), 1, 9);
        for (int r : NO_ROW) {
            Edges.refused("at(" + r + ", 0)", Edges::busy, BAD, y -> y.at(r, 0));
            Edges.refused("at(" + r + ", -1)", Edges::bare, BAD, y -> y.at(r, -1));
        }
        Edges.finds("a missing one", Edges::busy, NOTHING, y -> y.at(5, 0));
        Edges.finds("a missing one, NOTHING ahead of BEYOND", Edges::busy, NOTHING, y -> y.at(5, -1));
        for (int i : Edges.outside(0, 2)) {
            Edges.finds("at(0, " + i + ")", Edges::busy, BEYOND, y -> y.at(0, i));
        }
        for (int i : Edges.outside(0, 39)) {
            Edges.finds("at(3, " + i + ")", Edges::busy, BEYOND, y -> y.at(3, i));
        }
        Edges.finds("an empty one", Edges::busy, BEYOND, y -> y.at(1, 0));
    }

    private static void tear() {
        Edges.sentence(5, "A ROW is missing: 1. BAD; NOTHING.");
        for (int r = 0; r <= 4; r++) {
            AnnCups x = Edges.bare();
            Edges.due("tear(" + r + ")", x.tear(r), 1);
            Edges.due("ROWS", x.count(9), 4);
            Edges.due("at(" + r + ", 0)", x.at(r, 0), FINDING);
            Edges.due("it is missing", x.finding(), NOTHING);
        }
        Edges.Setting torn = () -> {
            AnnCups x = Edges.busy();
            x.tear(0);
            return x;
        };
        Edges.finds("a torn one", torn, NOTHING, x -> x.tear(0));
        Edges.finds("one that never was", Edges::busy, NOTHING, x -> x.tear(5));
        AnnCups x = torn.made();
        x.row(0, 3);
        Edges.due("a ROW there again is of 0s", Edges.show(x, 0), "0 0 0");
        for (int r : NO_ROW) {
            Edges.refused("tear(" + r + ")", Edges::busy, BAD, y -> y.tear(r));
        }
    }

    private static AnnCups five() {
        AnnCups x = Edges.lay(Edges.busy(), 0, 1, 2, 3, 4, 5);
        return Edges.lay(x, 4, 6, 7, 8);
    }

    private static void dueCopy(int i, int to, int j, int n, String want) {
        AnnCups x = five();
        String what = "copy(0, " + i + ", " + to + ", " + j + ", " + n + ")";
        Edges.due(what, x.copy(0, i, to, j, n), 1);
        Edges.due(what + ": the ROW then", Edges.show(x, to), want);
        Edges.due(what + ": where it is from", Edges.show(x, 0), to == 0 ? want : "1 2 3 4 5");
    }

    private static void copy() {
        Edges.sentence(6, "come to those of another one (perhaps itself) from one on, as if taken ahead: 1.");
        dueCopy(0, 0, 1, 4, "1 1 2 3 4");
        dueCopy(1, 0, 0, 4, "2 3 4 5 5");
        dueCopy(0, 0, 2, 3, "1 2 1 2 3");
        dueCopy(2, 0, 1, 3, "1 3 4 5 5");
        dueCopy(0, 0, 0, 5, "1 2 3 4 5");
        dueCopy(4, 0, 0, 1, "5 2 3 4 5");
        dueCopy(0, 0, 4, 1, "1 2 3 4 1");
        dueCopy(2, 4, 0, 3, "3 4 5");
        dueCopy(0, 4, 2, 1, "6 7 1");
        dueCopy(4, 4, 0, 1, "5 7 8");
        dueCopy(5, 4, 3, 0, "6 7 8");
        dueCopy(0, 4, 0, 0, "6 7 8");
        dueCopy(5, 0, 5, 0, "1 2 3 4 5");
        AnnCups x = five();
        x.row(1, 40);
        x.row(2, 40);
        x.lay(1, 39, LEAST);
        Edges.due("all forty", x.copy(1, 0, 2, 0, 40), 1);
        Edges.dueAsked("the last one", x, x.at(2, 39), 1, LEAST);
        x.row(1, 0);
        Edges.due("none of an empty one to itself", x.copy(1, 0, 1, 0, 0), 1);
    }

    private static void dueBeyond(int r, int i, int to, int j, int n) {
        String what = "copy(" + r + ", " + i + ", " + to + ", " + j + ", " + n + ")";
        Edges.finds(what, EdgesOfRowsTest::five, BEYOND, x -> x.copy(r, i, to, j, n));
    }

    private static void copyBeyond() {
        Edges.sentence(6, "BEYOND: not so many there.");
        dueBeyond(0, 0, 3, 0, 6);
        dueBeyond(0, 1, 3, 0, 5);
        dueBeyond(0, 4, 3, 0, 2);
        dueBeyond(0, 5, 3, 0, 1);
        dueBeyond(0, 6, 3, 0, 0);
        dueBeyond(0, 0, 4, 0, 4);
        dueBeyond(0, 0, 4, 1, 3);
        dueBeyond(0, 0, 4, 2, 2);
        dueBeyond(0, 0, 4, 3, 1);
        dueBeyond(0, 0, 4, 4, 0);
        dueBeyond(0, -1, 3, 0, 1);
        dueBeyond(0, -1, 3, 0, 0);
        dueBeyond(0, 0, 3, -1, 1);
        dueBeyond(0, 0, 3, -1, 0);
        dueBeyond(0, LEAST, 3, 0, 1);
        dueBeyond(0, 0, 3, LEAST, 1);
        dueBeyond(1, 0, 3, 0, 1);
        dueBeyond(3, 0, 1, 0, 1);
        dueBeyond(3, 0, 3, 1, 40);
        dueBeyond(3, 1, 3, 0, 40);
        dueBeyond(3, 0, 3, 0, 41);
        // a place and how many, added up, wrap around
        dueBeyond(0, 1, 3, 0, MOST);
        dueBeyond(0, MOST, 3, 0, 1);
        dueBeyond(0, MOST, 3, MOST, MOST);
        dueBeyond(0, 0, 3, MOST, 2);
        dueBeyond(0, 0, 3, 1, MOST);
    }

    private static void copyRefused() {
        Edges.sentence(6, "BAD; SIZE: n below 0; NOTHING: either; BEYOND: not so many there.");
        for (int n : new int[] {-1, -2, -256, LEAST + 1, LEAST}) {
            Edges.finds("n is " + n, Edges::busy, SIZE, x -> x.copy(0, 0, 3, 0, n));
            Edges.finds("SIZE ahead of NOTHING, from", Edges::busy, SIZE, x -> x.copy(5, 0, 3, 0, n));
            Edges.finds("SIZE ahead of NOTHING, to", Edges::busy, SIZE, x -> x.copy(0, 0, 5, 0, n));
            Edges.finds("SIZE ahead of BEYOND, from", Edges::busy, SIZE, x -> x.copy(0, 4, 3, 0, n));
            Edges.finds("SIZE ahead of BEYOND, to", Edges::busy, SIZE, x -> x.copy(0, 0, 3, -1, n));
        }
        Edges.finds("from a missing one", Edges::busy, NOTHING, x -> x.copy(5, 0, 0, 0, 0));
        Edges.finds("to a missing one", Edges::busy, NOTHING, x -> x.copy(0, 0, 5, 0, 0));
        Edges.finds("both are missing", Edges::busy, NOTHING, x -> x.copy(5, 0, 5, 0, 0));
        Edges.finds("NOTHING ahead of BEYOND, from", Edges::busy, NOTHING, x -> x.copy(5, 0, 0, 9, 1));
        Edges.finds("NOTHING ahead of BEYOND, to", Edges::busy, NOTHING, x -> x.copy(0, 9, 5, 0, 1));
        for (int r : NO_ROW) {
            Edges.refused("from ROW " + r, Edges::busy, BAD, x -> x.copy(r, 0, 0, 0, 1));
            Edges.refused("to ROW " + r, Edges::busy, BAD, x -> x.copy(0, 0, r, 0, 1));
            Edges.refused("BAD ahead of SIZE", Edges::busy, BAD, x -> x.copy(r, 0, 0, 0, -1));
            Edges.refused("BAD ahead of SIZE", Edges::busy, BAD, x -> x.copy(0, 0, r, 0, -1));
            Edges.refused("BAD ahead of NOTHING", Edges::busy, BAD, x -> x.copy(r, 0, 5, 0, 1));
            Edges.refused("BAD ahead of NOTHING", Edges::busy, BAD, x -> x.copy(5, 0, r, 0, 1));
            Edges.refused("BAD ahead of BEYOND", Edges::busy, BAD, x -> x.copy(0, 9, r, 0, 1));
        }
    }

    private static void dueMean(int want, int... ints) {
        AnnCups x = Edges.lay(Edges.busy(), 5, ints);
        Edges.dueAsked("of " + java.util.Arrays.toString(ints), x, x.mean(5), 1, want);
    }

    private static void mean() {
        Edges.sentence(7, "The mean of a ROW's ints, cut, told by asked(): 1.");
        dueMean(5, 5);
        dueMean(0, 0);
        dueMean(1, 1, 2);
        dueMean(-1, -1, -2);
        dueMean(0, 0, -1);
        dueMean(0, 1, 0);
        dueMean(0, -1, 0, -1);
        dueMean(1, 1, 1, 3);
        dueMean(-1, -1, -1, -3);
        dueMean(LEAST, LEAST);
        dueMean(MOST, MOST, MOST, MOST);
        dueMean(LEAST, LEAST, LEAST);
        dueMean(0, MOST, LEAST);
        dueMean(1073741823, MOST, 0);
        int[] forty = new int[40];
        java.util.Arrays.fill(forty, LEAST);
        dueMean(LEAST, forty);
        java.util.Arrays.fill(forty, MOST);
        dueMean(MOST, forty);
        forty[39] = MOST - 1;
        dueMean(MOST - 1, forty);
    }

    private static void meanRefused() {
        Edges.sentence(7, "BAD; NOTHING; NOUGHT.");
        Edges.finds("of an empty one", Edges::busy, NOUGHT, x -> x.mean(1));
        Edges.finds("of a missing one", Edges::busy, NOTHING, x -> x.mean(5));
        for (int r : NO_ROW) {
            Edges.refused("mean(" + r + ")", Edges::busy, BAD, x -> x.mean(r));
        }
        Edges.sentence(0, "4 NOUGHT (shared among none)");
        Edges.finds("of an order of none", () -> {
            AnnCups x = Edges.make(Edges.bar("e0c1000"), 0);
            x.least(2);
            return x;
        }, NOUGHT, x -> x.mean(2));
    }

    private static void text() {
        Edges.sentence(8, "A TEXT is there with n blanks: n.");
        for (int n : new int[] {0, 1, 2, 59, 60}) {
            AnnCups x = Edges.bare();
            Edges.write(x, 2, "abc");
            Edges.due("text(2, " + n + ")", x.text(2, n), n);
            for (int i = 0; i < n; i++) {
                Edges.due("byte " + i + " of " + n, x.put(2, i, 65), 1032);
            }
            Edges.due("byte " + n + " of " + n, x.put(2, n, 65), FINDING);
            Edges.due("TEXTS", x.count(10), 2);
        }
        AnnCups x = new AnnCups();
        x.text(0, 60);
        x.put(0, 59, 65);
        x.text(0, 1);
        x.text(0, 60);
        Edges.due("what a longer one had is gone", x.put(0, 59, 65), 1032);
    }

    private static void textRefused() {
        Edges.sentence(8, "BAD: also n above 60; SIZE: below 0.");
        for (Edges.Setting setting : ANY) {
            for (int n : new int[] {61, 62, 316, 65536 + 60, MOST}) {
                Edges.refused("text(0, " + n + ")", setting, BAD, x -> x.text(0, n));
            }
            for (int n : new int[] {-1, -2, -256, -65536, LEAST + 1, LEAST}) {
                Edges.finds("text(0, " + n + ")", setting, SIZE, x -> x.text(0, n));
            }
            for (int t : NO_TEXT) {
                Edges.refused("text(" + t + ", 1)", setting, BAD, x -> x.text(t, 1));
                Edges.refused("text(" + t + ", 61)", setting, BAD, x -> x.text(t, 61));
                Edges.refused("text(" + t + ", -1): BAD ahead of SIZE", setting, BAD, x -> x.text(t, -1));
            }
        }
    }

    private static void put() {
        Edges.sentence(9, "Byte i of a TEXT is v, cut to a byte: what it was, and 1000 more.");
        int[] put = {0, 127, 128, 129, 255, 256, 257, -1, -128, -129, -256, 383, 384, 65535, MOST, LEAST, LEAST + 128};
        int[] cut = {0, 127, -128, -127, -1, 0, 1, -1, -128, 127, 0, 127, -128, -1, -1, 0, -128};
        AnnCups x = new AnnCups();
        x.text(3, 60);
        for (int i : new int[] {0, 59}) {
            int before = 32;
            for (int k = 0; k < put.length; k++) {
                Edges.due("put(3, " + i + ", " + put[k] + ")", x.put(3, i, put[k]), before + 1000);
                before = cut[k];
            }
            Edges.due("the last of them", x.put(3, i, 32), before + 1000);
        }
        for (int v = -128; v <= 127; v++) {
            x.put(3, 7, v);
            Edges.due("byte " + v, x.put(3, 7, 0), v + 1000);
        }
        Edges.due("asked() is not told", x.asked(), 0);
    }

    private static void putRefused() {
        Edges.sentence(9, "and 1000 more. BAD; NOTHING; BEYOND.");
        for (int t : NO_TEXT) {
            Edges.refused("put(" + t + ", 0, 65)", Edges::busy, BAD, x -> x.put(t, 0, 65));
            Edges.refused("put(" + t + ", -1, 65)", Edges::bare, BAD, x -> x.put(t, -1, 65));
        }
        Edges.finds("a missing one", Edges::busy, NOTHING, x -> x.put(3, 0, 65));
        Edges.finds("a missing one, NOTHING ahead of BEYOND", Edges::busy, NOTHING, x -> x.put(3, -1, 65));
        Edges.finds("a missing one, NOTHING ahead of BEYOND", Edges::busy, NOTHING, x -> x.put(3, 60, 65));
        Edges.finds("an empty one", Edges::busy, BEYOND, x -> x.put(1, 0, 65));
        for (int i : Edges.outside(0, 3)) {
            Edges.finds("put(2, " + i + ", 65)", Edges::busy, BEYOND, x -> x.put(2, i, 65));
        }
        Edges.Setting sixty = () -> {
            AnnCups x = Edges.busy();
            x.text(3, 60);
            return x;
        };
        for (int i : Edges.outside(0, 59)) {
            Edges.finds("put(3, " + i + ", 65)", sixty, BEYOND, x -> x.put(3, i, 65));
        }
    }
}
