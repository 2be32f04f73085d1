/** Each promise of the document by itself: what is ordinary, the edges it names, what it refuses and in which order. */
public final class PromisesTest {
    private static final int BAD = -1, FULL = -2, FINDING = -3, STATE = -4, SPENT = -6, NONE = -9;
    private static final int NOTHING = 1, BEYOND = 2, UNLIKE = 3, NOUGHT = 4, SIZE = 5;
    /** One CUP of each KIND: 0 CUP, 1 JUG, 2 TEA, 3 GHOST, 4 FOAM, 5 DECAF. */
    private static final String ALL = "e1c4033 j6114t5026g3155f7157d2098";
    /** Three who are called rightly. */
    private static final String THREE = "e0c1000c1011c1022";
    /** Three whose CUPS go round: 1 takes 0, 2 takes 1, 0 takes 2. */
    private static final String RING = "e0c1001c1012c1020";
    /** CUP 0 is called as 1 is: 1 takes what is called first. */
    private static final String TWO_ANNS = "e0c1005c1055";

    private static int wrong;
    private static int checks;

    private static void due(String what, long got, long want) {
        checks++;
        if (got != want) {
            wrong++;
            System.out.println(what + " answered " + got + ", due is " + want);
        }
    }

    private static void due(String what, String got, String want) {
        checks++;
        if (!got.equals(want)) {
            wrong++;
            System.out.println(what + " is " + got + ", due is " + want);
        }
    }

    private static void dueFinding(String what, AnnCups x, int got, int finding) {
        due(what, got, FINDING);
        due(what + ", finding()", x.finding(), finding);
    }

    private static void duePart(String what, AnnCups x, int got, long up, long low) {
        due(what, got, 1);
        due(what + ", upper()", x.upper(), up);
        due(what + ", lower()", x.lower(), low);
    }

    private static void dueAsked(String what, AnnCups x, int got, int want, int asked) {
        due(what, got, want);
        due(what + ", asked()", x.asked(), asked);
    }

    private static AnnCups write(AnnCups x, int t, String s) {
        x.text(t, s.length());
        for (int i = 0; i < s.length(); i++) {
            x.put(t, i, s.charAt(i));
        }
        return x;
    }

    private static AnnCups withBar(String s) {
        AnnCups x = write(new AnnCups(), 0, s);
        x.bar(0);
        return x;
    }

    private static AnnCups lay(AnnCups x, int r, int... ints) {
        x.row(r, ints.length);
        for (int i = 0; i < ints.length; i++) {
            x.lay(r, i, ints[i]);
        }
        return x;
    }

    private static String show(AnnCups x, int r) {
        StringBuilder s = new StringBuilder();
        int i = 0;
        while (x.at(r, i) == 1) {
            s.append(s.length() == 0 ? "" : " ").append(x.asked());
            i++;
        }
        return s.toString();
    }

    private static int told(AnnCups x, int i, int what) {
        return x.cup(i, what) == 1 ? x.asked() : -77;
    }

    public static void main(String[] args) {
        newObject();
        row();
        layAndAt();
        tear();
        copy();
        mean();
        text();
        put();
        fault();
        bar();
        cup();
        howLong();
        mark();
        holds();
        make();
        change();
        toss();
        undo();
        keepAndOn();
        least();
        latest();
        fewestAndOrders();
        makes();
        done();
        wrongAndMends();
        runs();
        whoseAndReach();
        alike();
        give();
        ears();
        kinds();
        wag();
        odds();
        mid();
        lots();
        asked();
        upperAndLower();
        count();
        findings();
        digest();
        System.out.println(checks + " checks of the promises, not as due: " + wrong);
        if (wrong != 0) {
            System.exit(1);
        }
    }

    private static void newObject() {
        AnnCups x = new AnnCups();
        for (int what = 0; what <= 11; what++) {
            due("1: count(" + what + ") of a new object", x.count(what), 0);
        }
        due("1: asked() of a new object", x.asked(), 0);
        due("1: upper() of a new object", x.upper(), 0);
        due("1: lower() of a new object", x.lower(), 1);
        due("1: finding() of a new object", x.finding(), 0);
        due("1: wrong() of a new object", x.wrong(), 0);
        due("1: mends() of a new object", x.mends(), 0);
        for (int r = 0; r <= 5; r++) {
            dueFinding("1: at(r, 0) of a new object", x, x.at(r, 0), NOTHING);
        }
        for (int t = 0; t <= 3; t++) {
            dueFinding("1: fault(t) of a new object", x, x.fault(t), NOTHING);
        }
    }

    private static void row() {
        AnnCups x = new AnnCups();
        due("2: row(0, 0)", x.row(0, 0), 0);
        due("2: row(5, 40)", x.row(5, 40), 40);
        due("2: at(5, 39)", x.at(5, 39), 1);
        due("2: row(0, 41)", x.row(0, 41), BAD);
        due("2: row(0, MAX)", x.row(0, Integer.MAX_VALUE), BAD);
        due("2: row(6, 1)", x.row(6, 1), BAD);
        due("2: row(-1, 1)", x.row(-1, 1), BAD);
        due("2: row(-1, -1): BAD ahead of SIZE", x.row(-1, -1), BAD);
        due("2: finding() behind BAD", x.finding(), 0);
        dueFinding("2: row(0, -1)", x, x.row(0, -1), SIZE);
        dueFinding("2: row(0, MIN)", x, x.row(0, Integer.MIN_VALUE), SIZE);
        due("2: rows there", x.count(9), 2);
        lay(x, 1, 7, 8, 9);
        x.row(1, -1);
        x.row(1, 41);
        due("2: a row behind refusals", show(x, 1), "7 8 9");
        due("2: row(1, 2) again", x.row(1, 2), 2);
        due("2: a row anew", show(x, 1), "0 0");
        x.row(1, 3);
        due("2: a row anew, longer", show(x, 1), "0 0 0");
    }

    private static void layAndAt() {
        AnnCups x = new AnnCups();
        dueFinding("3: lay() of none", x, x.lay(2, 0, 5), NOTHING);
        dueFinding("4: at() of none", x, x.at(2, 0), NOTHING);
        x.row(2, 3);
        dueAsked("3: lay(2, 0, 5)", x, x.lay(2, 0, 5), 1, 0);
        dueAsked("3: lay(2, 0, MIN)", x, x.lay(2, 0, Integer.MIN_VALUE), 1, 5);
        dueAsked("3: lay(2, 2, 4)", x, x.lay(2, 2, 4), 1, 0);
        dueAsked("4: at(2, 0)", x, x.at(2, 0), 1, Integer.MIN_VALUE);
        dueAsked("4: at(2, 2)", x, x.at(2, 2), 1, 4);
        for (int i : new int[] {-1, 3, 40, Integer.MAX_VALUE, Integer.MIN_VALUE}) {
            dueFinding("3: lay(2, " + i + ", 1)", x, x.lay(2, i, 1), BEYOND);
            dueFinding("4: at(2, " + i + ")", x, x.at(2, i), BEYOND);
        }
        due("3: lay(6, 0, 1)", x.lay(6, 0, 1), BAD);
        due("3: lay(-1, 9, 1)", x.lay(-1, 9, 1), BAD);
        due("4: at(6, 0)", x.at(6, 0), BAD);
        due("4: at(-1, 0)", x.at(-1, 0), BAD);
        due("4: asked() behind refusals", x.asked(), 4);
        x.row(3, 0);
        dueFinding("3: an empty ROW is there", x, x.lay(3, 0, 1), BEYOND);
        dueFinding("4: an empty ROW is there", x, x.at(3, 0), BEYOND);
    }

    private static void tear() {
        AnnCups x = new AnnCups();
        dueFinding("5: tear() of none", x, x.tear(3), NOTHING);
        x.row(3, 0);
        due("5: tear(3)", x.tear(3), 1);
        due("5: rows there", x.count(9), 0);
        dueFinding("5: tear(3) again", x, x.tear(3), NOTHING);
        dueFinding("5: at(3, 0) of a torn one", x, x.at(3, 0), NOTHING);
        due("5: tear(6)", x.tear(6), BAD);
        due("5: tear(-1)", x.tear(-1), BAD);
    }

    private static void copy() {
        AnnCups x = lay(new AnnCups(), 0, 1, 2, 3, 4, 5);
        due("6: onto itself, up", x.copy(0, 0, 0, 1, 4), 1);
        due("6: row behind it", show(x, 0), "1 1 2 3 4");
        lay(x, 0, 1, 2, 3, 4, 5);
        due("6: onto itself, down", x.copy(0, 1, 0, 0, 4), 1);
        due("6: row behind it", show(x, 0), "2 3 4 5 5");
        x.row(1, 3);
        due("6: to another", x.copy(0, 2, 1, 1, 2), 1);
        due("6: the other", show(x, 1), "0 4 5");
        due("6: the one", show(x, 0), "2 3 4 5 5");
        due("6: none, at the ends", x.copy(0, 5, 1, 3, 0), 1);
        dueFinding("6: not so many there", x, x.copy(0, 3, 1, 0, 3), BEYOND);
        dueFinding("6: not so many places", x, x.copy(0, 0, 1, 1, 3), BEYOND);
        dueFinding("6: from ahead", x, x.copy(0, -1, 1, 0, 1), BEYOND);
        dueFinding("6: to ahead", x, x.copy(0, 0, 1, -1, 1), BEYOND);
        dueFinding("6: far", x, x.copy(0, Integer.MAX_VALUE, 1, 0, Integer.MAX_VALUE), BEYOND);
        dueFinding("6: far to", x, x.copy(0, 0, 1, Integer.MAX_VALUE, 1), BEYOND);
        dueFinding("6: fewer than none", x, x.copy(0, 0, 1, 0, -1), SIZE);
        dueFinding("6: SIZE ahead of NOTHING", x, x.copy(2, 0, 1, 0, -1), SIZE);
        dueFinding("6: NOTHING ahead of BEYOND", x, x.copy(0, 99, 2, 0, 1), NOTHING);
        dueFinding("6: from none", x, x.copy(2, 0, 0, 0, 0), NOTHING);
        due("6: BAD from", x.copy(6, 0, 0, 0, -1), BAD);
        due("6: BAD to", x.copy(0, 0, -1, 0, -1), BAD);
        due("6: the other behind refusals", show(x, 1), "0 4 5");
        x.row(3, 0);
        due("6: none to an empty one", x.copy(0, 0, 3, 0, 0), 1);
        due("6: none from an empty one", x.copy(3, 0, 0, 0, 0), 1);
        dueFinding("6: one from an empty one", x, x.copy(3, 0, 0, 0, 1), BEYOND);
    }

    private static void mean() {
        AnnCups x = lay(new AnnCups(), 0, 7, -2);
        dueAsked("7: mean of 7, -2", x, x.mean(0), 1, 2);
        lay(x, 0, -7, 2);
        dueAsked("7: mean of -7, 2", x, x.mean(0), 1, -2);
        x.row(0, 40);
        for (int i = 0; i < 40; i++) {
            x.lay(0, i, Integer.MAX_VALUE);
        }
        dueAsked("7: mean of the greatest", x, x.mean(0), 1, Integer.MAX_VALUE);
        x.row(1, 0);
        dueFinding("7: mean of none", x, x.mean(1), NOUGHT);
        dueFinding("7: mean of a missing one", x, x.mean(2), NOTHING);
        due("7: mean(6)", x.mean(6), BAD);
        due("7: mean(-1)", x.mean(-1), BAD);
        due("7: asked() behind refusals", x.asked(), Integer.MAX_VALUE);
    }

    private static void text() {
        AnnCups x = new AnnCups();
        due("8: text(3, 60)", x.text(3, 60), 60);
        due("8: a blank", x.put(3, 59, 65), 1032);
        due("8: text(0, 0)", x.text(0, 0), 0);
        due("8: texts there", x.count(10), 2);
        due("8: text(0, 61)", x.text(0, 61), BAD);
        due("8: text(4, 1)", x.text(4, 1), BAD);
        due("8: text(-1, -1): BAD ahead of SIZE", x.text(-1, -1), BAD);
        dueFinding("8: text(3, -1)", x, x.text(3, -1), SIZE);
        due("8: a byte behind a refusal", x.put(3, 59, 65), 1065);
        due("8: text(3, 60) anew", x.text(3, 60), 60);
        due("8: a blank anew", x.put(3, 59, 65), 1032);
    }

    private static void put() {
        AnnCups x = new AnnCups();
        dueFinding("9: put() of none", x, x.put(0, 0, 1), NOTHING);
        x.text(0, 2);
        due("9: put(0, 1, 255)", x.put(0, 1, 255), 1032);
        due("9: put(0, 1, 128)", x.put(0, 1, 128), 999);
        due("9: put(0, 1, 300)", x.put(0, 1, 300), 872);
        due("9: put(0, 1, -1)", x.put(0, 1, -1), 1044);
        due("9: put(0, 1, 0)", x.put(0, 1, 0), 999);
        due("9: put(0, 1, 127)", x.put(0, 1, 127), 1000);
        for (int i : new int[] {-1, 2, 60, Integer.MIN_VALUE}) {
            dueFinding("9: put(0, " + i + ", 1)", x, x.put(0, i, 1), BEYOND);
        }
        due("9: put(4, 0, 1)", x.put(4, 0, 1), BAD);
        due("9: put(-1, 0, 1)", x.put(-1, 0, 1), BAD);
        x.text(1, 0);
        dueFinding("9: an empty TEXT is there", x, x.put(1, 0, 1), BEYOND);
    }

    private static void dueFault(String s, int want) {
        AnnCups x = write(new AnnCups(), 2, s);
        due("10: fault of '" + s + "'", x.fault(2), want);
        int cups = s.replace(" ", "").length() / 5;
        due("11: bar of '" + s + "'", x.bar(2), want == NONE ? cups : STATE);
        due("11: cups of '" + s + "'", x.count(0), want == NONE ? cups : 0);
    }

    private static void fault() {
        dueFault("", 0);
        dueFault("   ", 3);
        dueFault("e", 1);
        dueFault("e1", 2);
        dueFault("e1  ", 4);
        dueFault("x1", 0);
        dueFault("  x", 2);
        dueFault("c1000", 0);
        dueFault("ee", 1);
        dueFault("e 1c1000", 1);
        dueFault("e:c1000", 1);
        dueFault("e/c1000", 1);
        dueFault("e10c1000", 2);
        dueFault("e0c1000", NONE);
        dueFault("e9d9399", NONE);
        dueFault("  e9   c1000  ", NONE);
        dueFault("e0x1000", 2);
        dueFault("e0C1000", 2);
        dueFault("e0e1000", 2);
        dueFault("e0c0000", 3);
        dueFault("e0c:000", 3);
        dueFault("e0c1400", 4);
        dueFault("e0c1/00", 4);
        dueFault("e0c10a0", 5);
        dueFault("e0c100a", 6);
        dueFault("e0c", 3);
        dueFault("e0c1", 4);
        dueFault("e0c10", 5);
        dueFault("e0c100", 6);
        dueFault("e0c 1000", 3);
        dueFault("e0c1 000", 4);
        dueFault("e0c1000 j2011t3022g4033f5044d6055", NONE);
        dueFault("e0c1000j2011t3022g4033f5044d6055  ", NONE);
        dueFault("e0c1000j2011t3022g4033f5044d6055c1000", 32);
        dueFault("e0c1000j2011t3022g4033f5044d6055  c1000", 34);
        dueFault("e0c1000j2011t3022g4033f5044d6055 x", 33);
        dueFault("e0c1000\n", 7);
        dueFault("e0c1000\u00e3", 7);
        dueFault("e0c1000\u0000", 7);
        AnnCups x = new AnnCups();
        dueFinding("10: fault() of none", x, x.fault(0), NOTHING);
        due("10: fault(4)", x.fault(4), BAD);
        due("10: fault(-1)", x.fault(-1), BAD);
        write(x, 1, ALL);
        due("10: fault of a bar", x.fault(1), NONE);
        due("10: it makes no bar", x.count(0), 0);
    }

    private static void bar() {
        AnnCups x = new AnnCups();
        due("11: bar(4)", x.bar(4), BAD);
        due("11: bar(-1)", x.bar(-1), BAD);
        dueFinding("11: bar() of none", x, x.bar(0), NOTHING);
        write(x, 0, ALL);
        write(x, 1, THREE);
        write(x, 2, "e0c1");
        due("11: bar(0)", x.bar(0), 6);
        x.make(1);
        x.keep(2);
        long before = x.digest();
        due("11: a FAULT", x.bar(2), STATE);
        due("11: a FAULT leaves all", x.digest(), before);
        due("11: bar(1)", x.bar(1), 3);
        due("11: TIME", x.count(1), 0);
        due("11: DEEDS", x.count(2), 0);
        due("11: made", x.count(3), 0);
        due("11: had", x.count(8), 0);
        due("11: kept BARS", x.count(11), 0);
        due("11: hands", x.holds(0), NONE);
        due("11: the same again", x.bar(1), 3);
        x.keep(0);
        write(x, 3, "e0g1000c1010");
        due("11: another one", x.bar(3), 2);
        due("11: kept BARS", x.count(11), 0);
        due("11: other ones are there", x.whose(0), 0);
        due("11: nobody takes it", x.make(1), NONE);
    }

    private static void cup() {
        AnnCups x = withBar(ALL);
        String[] due = {"0 4 0 3 3", "1 6 1 1 4", "2 3 0 2 6", "3 3 1 5 5", "4 14 1 5 7", "5 4 0 9 8"};
        for (int i = 0; i < 6; i++) {
            String s = told(x, i, 0) + " " + told(x, i, 1) + " " + told(x, i, 2) + " " + told(x, i, 3) + " " + told(x, i, 4);
            due("12: cup " + i, s, due[i]);
            due("12: where cup " + i + " is", told(x, i, 5), NONE);
        }
        x.make(1);
        x.make(4);
        due("12: who holds it", told(x, 1, 5), 0);
        due("12: it stands", told(x, 4, 5), 6);
        x.toss(4);
        due("12: it is thrown", told(x, 4, 5), 7);
        x.cup(0, 3);
        due("12: cup(6, 0)", x.cup(6, 0), BAD);
        due("12: cup(-1, 0)", x.cup(-1, 0), BAD);
        due("12: cup(0, 6)", x.cup(0, 6), BAD);
        due("12: cup(0, -1)", x.cup(0, -1), BAD);
        due("12: asked() behind refusals", x.asked(), 3);
        due("12: no CUPS", new AnnCups().cup(0, 0), BAD);
        due("12: cup 3 of three", withBar(THREE).cup(3, 0), BAD);
    }

    /** How long a CUP TAKES, with and without its MILK ahead. */
    private static void howLong() {
        AnnCups x = withBar("e0c1200j9211f9222j1233f1244c9255");
        due("12: a jug first", told(x, 1, 1), 9);
        due("12: a foam first", told(x, 2, 1), 18);
        x.make(0);
        due("12: a jug behind its milk", told(x, 1, 1), 4);
        due("12: a foam behind its milk", told(x, 2, 1), 8);
        due("12: a jug of 1", told(x, 3, 1), 1);
        due("12: a foam of 1", told(x, 4, 1), 2);
        due("12: a cup behind its milk", told(x, 5, 1), 9);
        x = withBar("e0t1000t2011t3022t4033d1044d9055");
        String times = "";
        for (int i = 0; i < 6; i++) {
            times += told(x, i, 1) + " ";
        }
        due("12: teas", times, "1 1 1 2 4 10 ");
        x = withBar("e0g5000j8011t3122j6033");
        x.make(0);
        due("12: a jug behind a ghost of its milk", told(x, 1, 1), 4);
        x.make(2);
        due("12: a jug behind another milk", told(x, 1, 1), 8);
        x.make(1);
        due("12: a jug behind a jug", told(x, 3, 1), 3);
        x.change(1, 3);
        due("12: hands that change make nothing", told(x, 3, 1), 3);
        x.undo(2);
        due("12: undone, another milk is ahead", told(x, 3, 1), 6);
        x.undo(0);
        due("12: undone, none is ahead", told(x, 3, 1), 6);
    }

    private static void mark() {
        AnnCups x = withBar(ALL);
        due("13: a jug", x.mark(1, 1), 2);
        due("13: a foam as a jug", x.mark(4, 1), 2);
        due("13: a foam", x.mark(4, 4), 6);
        due("13: a tea", x.mark(2, 2), 4);
        due("13: a decaf as a tea", x.mark(5, 2), 2);
        due("13: a decaf", x.mark(5, 5), 1);
        due("13: a ghost", x.mark(3, 3), 1);
        x.make(1);
        due("13: a made jug", x.mark(1, 1), 2);
        due("13: a foam, one made", x.mark(4, 1), 1);
        due("13: a tea behind a jug", x.mark(2, 2), 3);
        due("13: a foam behind its milk", x.mark(4, 4), 6);
        x.make(3);
        due("13: a ghost, somebody had", x.mark(3, 3), 1);
        dueFinding("13: a cup is no jug", x, x.mark(0, 1), UNLIKE);
        dueFinding("13: a jug is no foam", x, x.mark(1, 4), UNLIKE);
        dueFinding("13: a tea is no decaf", x, x.mark(2, 5), UNLIKE);
        dueFinding("13: a jug is no tea", x, x.mark(1, 2), UNLIKE);
        dueFinding("13: a foam is no ghost", x, x.mark(4, 3), UNLIKE);
        due("13: KIND 0", x.mark(0, 0), BAD);
        due("13: KIND 6", x.mark(0, 6), BAD);
        due("13: KIND -1", x.mark(0, -1), BAD);
        due("13: CUP 6", x.mark(6, 1), BAD);
        due("13: CUP -1", x.mark(-1, 1), BAD);
        x = withBar("e0c9100j2111t1122");
        due("13: CUP 0 has its milk", x.mark(1, 1), 2);
        due("13: CUP 0 takes longer", x.mark(2, 2), 2);
    }

    private static void holds() {
        AnnCups x = withBar(RING);
        due("14: nothing", x.holds(1), NONE);
        x.make(0);
        due("14: cup 0", x.holds(1), 0);
        due("14: holds(0)", x.holds(0), NONE);
        due("14: holds(3)", x.holds(3), BAD);
        due("14: holds(-1)", x.holds(-1), BAD);
        due("14: nobody there", new AnnCups().holds(0), BAD);
    }

    private static void make() {
        AnnCups x = withBar(ALL);
        due("15: make(1): the first alike", x.make(1), 0);
        due("15: TIME", x.count(1), 6);
        due("15: make(4): nobody", x.make(4), NONE);
        due("15: TIME behind its milk", x.count(1), 12);
        due("15: make(0): who had something does not take", x.make(0), 2);
        due("15: make(0) again", x.make(0), STATE);
        due("15: make(3): a ghost's is taken by another", x.make(3), 4);
        due("15: make(5)", x.make(5), 5);
        due("15: TIME", x.count(1), 23);
        due("15: DEEDS", x.count(2), 5);
        due("15: make(6)", x.make(6), BAD);
        due("15: make(-1)", x.make(-1), BAD);
        due("15: no CUPS", new AnnCups().make(0), BAD);
        x = withBar("e9g1000c1011");
        due("15: who is not there takes nothing", x.make(0), 1);
        due("15: none is left", x.make(1), NONE);
    }

    /** Forty DEEDS: CUP 0 STANDS, CUP 1 goes to and fro, CUP 2 is not made. */
    private static AnnCups full() {
        AnnCups x = withBar("e0c1001c1000c1009");
        x.make(0);
        x.make(1);
        for (int k = 0; k < 38; k++) {
            x.change(0, 1);
        }
        return x;
    }

    private static void change() {
        AnnCups x = withBar(RING);
        due("16: neither holds anything", x.change(0, 1), STATE);
        x.make(0);
        due("16: to its own", x.change(1, 0), 0);
        due("16: holds(0)", x.holds(0), 0);
        due("16: holds(1)", x.holds(1), NONE);
        due("16: both had something", x.count(8), 3);
        due("16: who had does not take", x.make(2), NONE);
        due("16: wrong again", x.change(0, 2), 1);
        due("16: where", told(x, 0, 5), 2);
        x.make(1);
        due("16: both hold", x.count(2), 5);
        due("16: change(3, 0)", x.change(3, 0), BAD);
        due("16: change(0, -1)", x.change(0, -1), BAD);
        due("16: the same", x.change(2, 2), BAD);
        due("16: change(32, 1)", x.change(32, 1), BAD);
        due("16: change(1, 32)", x.change(1, 32), BAD);
        x = withBar(ALL);
        due("16: one who is not there, ahead of STATE", x.change(0, 3), BAD);
        due("16: one who is not there", x.change(3, 0), BAD);
        x = full();
        due("16: FULL", x.change(0, 1), FULL);
        due("16: STATE ahead of FULL", x.change(1, 2), STATE);
        due("16: BAD ahead of FULL", x.change(1, 1), BAD);
        due("15: FULL", x.make(2), FULL);
        due("15: STATE ahead of FULL", x.make(1), STATE);
        due("15: BAD ahead of FULL", x.make(3), BAD);
        due("17: FULL", x.toss(0), FULL);
        due("17: STATE ahead of FULL", x.toss(1), STATE);
        due("17: BAD ahead of FULL", x.toss(3), BAD);
        due("16: DEEDS", x.count(2), 40);
    }

    private static void toss() {
        AnnCups x = withBar("e0c1001c1022c1034");
        due("17: not made", x.toss(0), STATE);
        x.make(0);
        x.make(1);
        x.make(2);
        due("17: they stand", x.count(4), 5);
        due("17: one is held", x.toss(1), STATE);
        due("17: toss(2)", x.toss(2), 1);
        due("17: again", x.toss(2), STATE);
        due("17: toss(0)", x.toss(0), 0);
        due("17: DEEDS", x.count(2), 5);
        due("17: made yet", x.count(3), 7);
        due("17: toss(3)", x.toss(3), BAD);
        due("17: toss(-1)", x.toss(-1), BAD);
    }

    private static void undo() {
        AnnCups x = withBar(RING);
        due("18: none to undo", x.undo(0), 0);
        due("18: undo(1) of none", x.undo(1), BAD);
        long fresh = x.digest();
        x.make(0);
        x.make(1);
        long two = x.digest();
        x.change(0, 2);
        x.make(2);
        x.toss(2);
        due("18: undo(-1)", x.undo(-1), BAD);
        due("18: undo(6)", x.undo(6), BAD);
        due("18: undo(5): none of five", x.undo(5), 0);
        due("18: undo(2)", x.undo(2), 3);
        due("18: as it was", x.digest(), two);
        due("18: who had", x.count(8), 6);
        due("18: undo(0)", x.undo(0), 2);
        due("18: as it was at first", x.digest(), fresh);
        x = full();
        due("18: of forty", x.undo(39), 1);
        due("18: there is room again", x.make(2), NONE);
    }

    private static void keepAndOn() {
        AnnCups x = new AnnCups();
        due("19: no CUPS", x.keep(0), STATE);
        due("19: BAD ahead of STATE", x.keep(3), BAD);
        due("19: keep(-1)", x.keep(-1), BAD);
        due("20: on(3)", x.on(3), BAD);
        due("20: on(-1)", x.on(-1), BAD);
        dueFinding("20: on() of none", x, x.on(2), NOTHING);
        x = withBar(RING);
        due("19: keep(0)", x.keep(0), 0);
        x.make(0);
        x.change(0, 1);
        due("19: keep(2)", x.keep(2), 2);
        due("19: kept BARS", x.count(11), 2);
        long two = x.digest();
        x.make(1);
        x.make(2);
        due("20: on(2)", x.on(2), 2);
        due("20: as it was kept", x.digest(), two);
        due("20: on(0)", x.on(0), 0);
        due("20: nothing made", x.count(3), 0);
        due("20: on(2) again", x.on(2), 2);
        due("20: as it was kept", x.digest(), two);
        dueFinding("20: on(1)", x, x.on(1), NOTHING);
        x.undo(0);
        due("20: undone, it is kept yet", x.on(2), 2);
        x.make(2);
        due("19: keep(2) again", x.keep(2), 3);
        x.undo(0);
        due("20: the later one", x.on(2), 3);
        x.undo(0);
        x.make(2);
        x.make(1);
        x.change(0, 2);
        x.change(1, 2);
        due("20: other DEEDS go", x.on(2), 3);
        due("20: the kept ones come", told(x, 0, 5), 0);
        due("20: and no others", x.count(3), 5);
        x.bar(0);
        dueFinding("20: behind a new BAR", x, x.on(2), NOTHING);
        x = full();
        due("19: forty DEEDS", x.keep(1), 40);
        x.undo(0);
        due("20: forty DEEDS", x.on(1), 40);
    }

    private static void least() {
        AnnCups x = withBar("e0j4100t9011c1222");
        due("21: short ones first", x.least(4), 18);
        due("21: the order", show(x, 4), "2 0 1");
        due("21: nothing is done", x.count(2), 0);
        x = withBar("e0j8100c3111");
        due("21: behind its milk", x.least(0), 10);
        due("21: the order", show(x, 0), "1 0");
        x = withBar("e0g5100j8111");
        due("21: a ghost's left out", x.least(0), 8);
        due("21: the order", show(x, 0), "1 0");
        x = withBar("e0c2000c2011c2022");
        due("21: all the same", x.least(0), 12);
        due("21: the first order", show(x, 0), "0 1 2");
        x.make(1);
        due("21: TIME now counts", x.least(0), 10);
        due("21: those not made", show(x, 0), "0 2");
        x.make(0);
        x.make(2);
        lay(x, 0, 1, 2, 3);
        due("21: none", x.least(0), 0);
        due("21: a ROW anew", show(x, 0), "");
        due("21: it is there", x.mean(0), FINDING);
        due("21: least(6)", x.least(6), BAD);
        due("21: least(-1)", x.least(-1), BAD);
        due("21: no CUPS", new AnnCups().least(0), STATE);
        due("21: BAD ahead of STATE", new AnnCups().least(6), BAD);
        due("21: six", withBar(ALL).least(1), 61);
    }

    private static void latest() {
        AnnCups x = withBar("e0j4100t9011c1222");
        due("22: all alike", x.latest(4), 12);
        due("22: the first order", show(x, 4), "0 1 2");
        x = withBar("e0j8100c3111");
        due("22: behind its milk", x.latest(0), 7);
        due("22: the order", show(x, 0), "1 0");
        x = withBar("e0g5100j8111");
        due("22: no ghost's", x.latest(0), 8);
        due("22: the order", show(x, 0), "1 0");
        x = withBar("e0g2100j8111");
        due("22: a ghost ahead, for its milk", x.latest(0), 6);
        due("22: the order", show(x, 0), "0 1");
        x = withBar("e0g5000g4000c3000");
        x.make(2);
        due("22: there is none", x.latest(0), 3);
        due("22: the first order", show(x, 0), "0 1");
        x.make(0);
        x.make(1);
        due("22: TIME now", x.latest(0), 12);
        due("22: none", show(x, 0), "");
        due("22: latest(6)", x.latest(6), BAD);
        due("22: latest(-1)", x.latest(-1), BAD);
        due("22: no CUPS", new AnnCups().latest(0), STATE);
        due("22: BAD ahead of STATE", new AnnCups().latest(-1), BAD);
    }

    private static void fewestAndOrders() {
        AnnCups x = withBar(TWO_ANNS);
        due("23: fewest", x.fewest(3), 0);
        due("23: the order", show(x, 3), "1 0");
        duePart("24: orders(0)", x, x.orders(0), 1, 1);
        duePart("24: orders(1)", x, x.orders(1), 1, 1);
        duePart("24: orders(2)", x, x.orders(2), 0, 1);
        duePart("24: orders(6)", x, x.orders(6), 0, 1);
        x.make(0);
        due("23: behind a wrong one", x.fewest(3), 1);
        due("23: the order", show(x, 3), "1");
        duePart("24: one order is left", x, x.orders(1), 1, 1);
        x.make(1);
        due("23: none is left", x.fewest(3), 1);
        duePart("24: the order of none", x, x.orders(1), 1, 1);
        duePart("24: none", x, x.orders(0), 0, 1);
        x = withBar(RING);
        duePart("24: a ring", x, x.orders(3), 6, 1);
        due("23: all the same", x.fewest(3), 3);
        due("23: the first order", show(x, 3), "0 1 2");
        x = withBar(TWO_ANNS);
        x.make(0);
        duePart("24: from now on", x, x.orders(0), 0, 1);
        x = withBar(ALL);
        duePart("24: half of all", x, x.orders(1), 360, 1);
        x = withBar("e0c1001c1010c1023c1032c1044c1055");
        duePart("24: all six made", x, x.orders(4), 720, 1);
        due("24: orders(7)", x.orders(7), BAD);
        due("24: orders(-1)", x.orders(-1), BAD);
        due("24: upper() behind refusals", x.upper(), 720);
        due("24: no CUPS", new AnnCups().orders(0), STATE);
        due("24: BAD ahead of STATE", new AnnCups().orders(7), BAD);
        due("23: fewest(6)", x.fewest(6), BAD);
        due("23: fewest(-1)", x.fewest(-1), BAD);
        due("23: no CUPS", new AnnCups().fewest(0), STATE);
    }

    private static void makes() {
        AnnCups x = withBar(TWO_ANNS);
        lay(x, 0, 0, 1);
        dueAsked("25: 0 1", x, x.makes(0), 2, 1);
        lay(x, 0, 1, 1, 0);
        dueAsked("25: 1 1 0", x, x.makes(0), 1, 0);
        due("25: nothing is done", x.count(2), 0);
        x.make(1);
        lay(x, 0, 0, 1);
        dueAsked("25: from now on", x, x.makes(0), 2, 0);
        lay(x, 0, 1, 0);
        dueAsked("25: the first is made", x, x.makes(0), 1, 0);
        x.row(0, 0);
        dueAsked("25: none", x, x.makes(0), 1, 0);
        lay(x, 0, 1, 2);
        dueFinding("25: no CUP, behind the end, too", x, x.makes(0), UNLIKE);
        lay(x, 0, -1);
        dueFinding("25: -1", x, x.makes(0), UNLIKE);
        lay(x, 0, 9, 9, 9, 9, 9, 9, 9);
        dueFinding("25: SIZE ahead of UNLIKE", x, x.makes(0), SIZE);
        dueFinding("25: NOTHING", x, x.makes(1), NOTHING);
        due("25: asked() behind FINDINGS", x.asked(), 0);
        due("25: asked() behind refusals", x.asked(), 0);
        due("25: makes(6)", x.makes(6), BAD);
        due("25: makes(-1)", x.makes(-1), BAD);
        due("25: STATE ahead of NOTHING", new AnnCups().makes(0), STATE);
        due("25: BAD ahead of STATE", new AnnCups().makes(6), BAD);
        x = lay(withBar(ALL), 0, 0, 1, 2, 3, 4, 5);
        dueAsked("25: six", x, x.makes(0), 26, 1);
        x.make(3);
        lay(x, 0, 1);
        dueAsked("25: behind its milk", x, x.makes(0), 6, 2);
    }

    private static void done() {
        AnnCups x = withBar("e0j8100c3111");
        int[] times = {0, 2, 3, 7, 8, 10, 11, 99};
        String[] orders = {"", "", "1", "1 0", "1 0", "1 0", "0 1", "0 1"};
        int[] many = {0, 0, 1, 2, 2, 2, 2, 2};
        for (int k = 0; k < times.length; k++) {
            due("26: done by " + times[k], x.done(times[k], 5), many[k]);
            due("26: the order by " + times[k], show(x, 5), orders[k]);
        }
        x.make(1);
        due("26: SPENT", x.done(2, 5), SPENT);
        due("26: a ROW behind a refusal", show(x, 5), "0 1");
        due("26: just now", x.done(3, 5), 0);
        due("26: none", show(x, 5), "");
        due("26: behind its milk", x.done(7, 5), 1);
        due("26: done(100, 0)", x.done(100, 0), BAD);
        due("26: done(-1, 0)", x.done(-1, 0), BAD);
        due("26: done(0, 6): BAD ahead of SPENT", x.done(0, 6), BAD);
        due("26: done(0, -1)", x.done(0, -1), BAD);
        due("26: no CUPS", new AnnCups().done(0, 0), STATE);
        due("26: BAD ahead of STATE", new AnnCups().done(0, 6), BAD);
        x = withBar("e0f9000f9111f9022f9133f9044f9155");
        for (int i = 0; i < 6; i++) {
            x.make(i);
        }
        due("26: TIME above all", x.count(1), 108);
        due("26: SPENT always", x.done(99, 0), SPENT);
        x = withBar("e0g2000c2111");
        due("26: a ghost's counts", x.done(3, 0), 1);
        due("26: a ghost's is the first", show(x, 0), "0");
    }

    private static void wrongAndMends() {
        AnnCups x = withBar(RING);
        x.make(0);
        due("27: one", x.wrong(), 2);
        due("28: one hand-over", x.mends(), 1);
        x.make(1);
        due("27: a line", x.wrong(), 6);
        due("28: a line", x.mends(), 2);
        x.make(2);
        due("27: a ring", x.wrong(), 7);
        due("28: a ring", x.mends(), 2);
        x.change(0, 2);
        due("28: it mends", x.mends(), 1);
        x.change(0, 1);
        due("27: nobody", x.wrong(), 0);
        due("28: none needed", x.mends(), 0);
        x = withBar("e0c1001c1010c1023c1032c1044");
        for (int i = 0; i < 5; i++) {
            x.make(i);
        }
        due("27: two rings", x.wrong(), 15);
        due("28: two rings", x.mends(), 2);
        x = withBar("e0c1001g1010c1033");
        x.make(2);
        due("28: a ghost's is not held", x.mends(), 0);
        due("15: a ghost's CUP", x.make(1), 0);
        due("27: who holds a ghost's", x.wrong(), 1);
        due("28: by none", x.mends(), NONE);
        x = withBar("e0c1005c1000");
        x.make(1);
        due("28: a line, the lesser first", x.mends(), 1);
        x = withBar("e0c1001c1012c1023c1034c1045c1050");
        for (int i = 0; i < 6; i++) {
            x.make(i);
        }
        due("28: a ring of six", x.mends(), 5);
        dueAsked("29: a ring of six", x, x.runs(0), 5, 2);
    }

    private static void runs() {
        AnnCups x = withBar(RING);
        dueAsked("29: not made", x, x.runs(0), 0, NONE);
        x.make(0);
        dueAsked("29: one", x, x.runs(0), 1, 0);
        x.make(1);
        dueAsked("29: the first of a line", x, x.runs(0), 1, 0);
        dueAsked("29: the last of a line", x, x.runs(1), 2, 0);
        x.make(2);
        dueAsked("29: round", x, x.runs(0), 2, 2);
        dueAsked("29: round", x, x.runs(1), 2, 0);
        dueAsked("29: round", x, x.runs(2), 2, 1);
        due("29: runs(3)", x.runs(3), BAD);
        due("29: runs(-1)", x.runs(-1), BAD);
        due("29: asked() behind refusals", x.asked(), 1);
        x = withBar("e0c1001g1010c1033c1049");
        x.make(1);
        dueAsked("29: one who is not there", x, x.runs(1), 1, 1);
        x.make(2);
        dueAsked("29: who does not wait for it", x, x.runs(2), 0, NONE);
        x.make(3);
        dueAsked("29: it stands", x, x.runs(3), 0, NONE);
        x.toss(3);
        dueAsked("29: it is thrown", x, x.runs(3), 0, NONE);
        x = withBar(THREE);
        x.make(0);
        dueAsked("29: whose it is", x, x.runs(0), 0, NONE);
    }

    private static void whoseAndReach() {
        AnnCups x = withBar("e1c1005c1016g1020c1080");
        due("30: nobody", x.whose(0), 0);
        due("30: two", x.whose(2), 3);
        due("33: nobody", x.reach(0), NONE);
        due("33: the first", x.reach(2), 0);
        x.make(2);
        due("30: who had something, too", x.whose(3), 3);
        due("33: the next", x.reach(3), 1);
        due("33: a made one", x.reach(2), 1);
        due("33: nothing is done", x.count(2), 1);
        x.make(3);
        due("33: none is left", x.reach(3), NONE);
        due("30: whose(4)", x.whose(4), BAD);
        due("30: whose(-1)", x.whose(-1), BAD);
        due("33: reach(4)", x.reach(4), BAD);
        due("33: reach(-1)", x.reach(-1), BAD);
        x = withBar("e0g1000c1010");
        due("30: who is not there", x.whose(0), 0);
        x = withBar("e2c1040c1052c1064");
        due("30: by EARS just so", x.whose(1), 1);
        due("30: on both sides", x.whose(2), 7);
    }

    private static void alike() {
        AnnCups x = new AnnCups();
        dueAsked("31: nobody", x, x.alike(), 0, NONE);
        x = withBar("e1c1005c1016g1020c1080");
        dueAsked("31: one pair", x, x.alike(), 1, 1);
        x = withBar("e1g1005c1036g1040c1050c1040");
        dueAsked("31: later ones", x, x.alike(), 2, 6 + 4);
        x = withBar("e9c1000c1010c1020c1030c1040c1090");
        dueAsked("31: all", x, x.alike(), 15, 1);
        x = withBar("e0c1000c1010");
        dueAsked("31: none", x, x.alike(), 0, NONE);
        x = withBar("e0c1000c1010c1040c1090c1040");
        dueAsked("31: the same name", x, x.alike(), 1, 12 + 4);
    }

    private static void give() {
        due("32: no CUPS", new AnnCups().give(), STATE);
        AnnCups x = withBar("e1c1005c1016g1020c1080");
        dueAsked("32: the first that nobody has", x, x.give(), 3, 0);
        x = withBar("e9c1000g1010c1020");
        dueAsked("32: all the same", x, x.give(), 0, 2);
        x = withBar("e4c1000c1010c1020");
        dueAsked("32: far away", x, x.give(), 7, 0);
        x = withBar("e4c1040c1050c1020");
        dueAsked("32: fewest", x, x.give(), 9, 1);
        x = withBar("e0c1090c1080");
        dueAsked("32: the first", x, x.give(), 0, 0);
        x = withBar("e9c1000c1010c1020c1030c1040c1050");
        dueAsked("32: of six", x, x.give(), 0, 6);
    }

    private static void ears() {
        AnnCups x = withBar("e1c1003c1033");
        due("34: NOTHING", x.ears(0), FINDING);
        x.row(0, 0);
        due("34: no pairs", x.ears(0), 1023);
        lay(x, 0, 0, 1);
        due("34: 1 took 0", x.ears(0), 7);
        lay(x, 0, 0, 0);
        due("34: 0 took 0", x.ears(0), 1016);
        lay(x, 0, 0, 1, 1, NONE);
        due("34: and nobody 1", x.ears(0), 7);
        lay(x, 0, 0, 1, 1, 0);
        due("34: and 0 took 1", x.ears(0), 0);
        lay(x, 0, 0, NONE);
        due("34: nobody", x.ears(0), 0);
        due("34: nothing is done", x.count(2), 0);
        x.make(1);
        due("34: from now on", x.ears(0), 7);
        lay(x, 0, 1, 0);
        dueFinding("34: one that is made", x, x.ears(0), UNLIKE);
        x.undo(0);
        int[][] unlike = {{2, 0}, {-1, 0}, {0, 1, 0, 1}, {0, 6}, {0, -1}, {0, 2}, {0, -8}};
        for (int[] pairs : unlike) {
            lay(x, 0, pairs);
            dueFinding("34: " + java.util.Arrays.toString(pairs), x, x.ears(0), UNLIKE);
        }
        lay(x, 0, 9, 9, 9);
        dueFinding("34: SIZE ahead of UNLIKE", x, x.ears(0), SIZE);
        x.row(0, 14);
        dueFinding("34: seven pairs", x, x.ears(0), SIZE);
        dueFinding("34: NOTHING", x, x.ears(1), NOTHING);
        due("34: ears(6)", x.ears(6), BAD);
        due("34: ears(-1)", x.ears(-1), BAD);
        due("34: STATE ahead of NOTHING", new AnnCups().ears(0), STATE);
        due("34: BAD ahead of STATE", new AnnCups().ears(6), BAD);
        x = withBar(THREE.replace("c1000", "g1000"));
        lay(x, 0, 0, 0);
        due("34: one who is not there", x.ears(0), 0);
        x = withBar(ALL);
        lay(x, 0, 0, 0, 1, NONE, 2, NONE, 3, 4, 4, NONE, 5, NONE);
        due("34: six pairs", x.ears(0), 1);
        x = lay(withBar("e0c1005c1000"), 0, 0, NONE, 1, 0);
        due("34: nobody, then the first", x.ears(0), 31);
    }

    private static void kinds() {
        AnnCups x = withBar("e0c4000j6111d2022f1333");
        due("35: 4 in 4", x.kinds(0, 4, 0), 1 + 2 + 8);
        due("35: 4 in 4 behind its milk", x.kinds(0, 4, 1), 1 + 8 + 16);
        due("35: 4 in 2 behind its milk", x.kinds(0, 2, 1), 2 + 4);
        due("35: 4 in 5", x.kinds(0, 5, 0), 32);
        due("35: 6 in 12", x.kinds(1, 12, 0), 16);
        due("35: 2 in 4", x.kinds(2, 4, 0), 16 + 32);
        due("35: 1 in 1", x.kinds(3, 1, 1), 1 + 2 + 4 + 8);
        due("35: in 0", x.kinds(3, 0, 1), 0);
        due("35: in 99", x.kinds(3, 99, 1), 0);
        due("35: in 100", x.kinds(3, 100, 1), BAD);
        due("35: in -1", x.kinds(3, -1, 1), BAD);
        due("35: milk 2", x.kinds(3, 1, 2), BAD);
        due("35: milk -1", x.kinds(3, 1, -1), BAD);
        due("35: kinds(4, 1, 1)", x.kinds(4, 1, 1), BAD);
        due("35: kinds(-1, 1, 1)", x.kinds(-1, 1, 1), BAD);
    }

    private static void wag() {
        AnnCups x = withBar("e0c1000c1011");
        due("36: no turns", x.wag(0), 0);
        due("36: one holds something", x.wag(1), 0);
        due("36: both are changed", x.wag(2), 2);
        x.make(0);
        due("36: the second is made", x.wag(1), 2);
        x.make(1);
        due("36: none to make", x.wag(1), 2);
        due("36: twice", x.wag(2), 2);
        x.change(0, 1);
        due("36: no turns", x.wag(0), 2);
        due("36: nobody is changed", x.wag(1), 2);
        due("36: nothing is done", x.count(2), 3);
        x = withBar(TWO_ANNS);
        due("36: the bar wants few", x.wag(1), 0);
        due("36: the bar wants few, twice", x.wag(2), 0);
        x.make(0);
        due("36: two must hold something", x.wag(1), 1);
        x = withBar(THREE);
        x.make(0);
        x.make(1);
        x.make(2);
        due("36: two of three", x.wag(1), 2);
        due("36: three of three", x.wag(2), 3);
        x = withBar("e0c1001c1012c1023c1034c1045c1050");
        for (int i = 0; i < 5; i++) {
            x.make(i);
        }
        due("36: all six", x.wag(1), 6);
        x = withBar("e0c1005c1019c1059");
        due("36: what the bar only thought of is held by nobody", x.wag(1), 0);
        due("36: wag(3)", x.wag(3), BAD);
        due("36: wag(-1)", x.wag(-1), BAD);
        due("36: no CUPS", new AnnCups().wag(0), STATE);
        due("36: BAD ahead of STATE", new AnnCups().wag(3), BAD);
    }

    private static void odds() {
        AnnCups x = withBar("e9c1000c1011c1022g1033");
        duePart("37: two ahead", x, x.odds(2, 6), 1, 4);
        duePart("37: one ahead", x, x.odds(1, 4), 1, 3);
        duePart("37: none ahead", x, x.odds(0, 5), 1, 1);
        duePart("37: none goes", x, x.odds(2, 0), 0, 1);
        duePart("37: all go", x, x.odds(2, 12), 1, 1);
        duePart("37: 5 of 12, twice", x, x.odds(2, 5), 25, 144);
        duePart("37: a ghost's", x, x.odds(3, 12), 0, 1);
        due("37: nothing is done", x.count(2), 0);
        x.make(0);
        due("37: it is made", x.odds(0, 6), STATE);
        duePart("37: who had something is not ahead", x, x.odds(2, 6), 1, 2);
        due("37: odds(2, 13)", x.odds(2, 13), BAD);
        due("37: odds(2, -1)", x.odds(2, -1), BAD);
        due("37: odds(4, 0)", x.odds(4, 0), BAD);
        due("37: odds(0, 13): BAD ahead of STATE", x.odds(0, 13), BAD);
        due("37: lower() behind refusals", x.lower(), 2);
        due("37: no CUPS", new AnnCups().odds(0, 0), BAD);
        x = withBar("e9c1000c1011");
        x.make(1);
        duePart("37: whose it is had something", x, x.odds(0, 12), 0, 1);
        x = withBar(RING);
        duePart("37: another name", x, x.odds(0, 6), 0, 1);
    }

    private static void mid() {
        AnnCups x = withBar("e9c1000c1011");
        duePart("38: halves", x, x.mid(6), 1, 4);
        duePart("38: 3 of 12", x, x.mid(3), 3, 16);
        duePart("38: none goes", x, x.mid(0), 0, 1);
        duePart("38: all go", x, x.mid(12), 0, 1);
        due("38: nothing is done", x.count(2), 0);
        x.make(1);
        duePart("38: one is wrong, another may be", x, x.mid(6), 3, 2);
        x.make(0);
        duePart("38: all are made", x, x.mid(6), 2, 1);
        x = withBar("e9g1000c1011");
        duePart("38: who is not there does not go", x, x.mid(9), 1, 4);
        x = withBar(ALL);
        duePart("38: six", x, x.mid(4), 8, 9);
        due("38: mid(13)", x.mid(13), BAD);
        due("38: mid(-1)", x.mid(-1), BAD);
        due("38: no CUPS", new AnnCups().mid(0), STATE);
        due("38: BAD ahead of STATE", new AnnCups().mid(13), BAD);
    }

    private static void lots() {
        // by seed 1 the numbers are 48271, 182605794, 1291394886, 1914720637, 2078669041
        AnnCups x = withBar("e0c1000c1011");
        due("39: one makes CUP 1", x.lots(1, 1), 0);
        due("39: it is made", x.count(3), 2);
        x.undo(0);
        due("39: four", x.lots(4, 1), 0);
        due("39: both are made, nothing is done twice", x.count(2), 4);
        x.undo(0);
        due("39: five", x.lots(5, 1), 2);
        due("39: DEEDS", x.count(2), 5);
        due("39: undone as others are", x.undo(2), 3);
        due("39: nobody", x.wrong(), 0);
        // alone: 0 is made, STANDS, is THROWN, then nothing is done
        x = withBar("e0c1001");
        due("39: it stands", x.lots(1, 7), 0);
        due("39: it stands", told(x, 0, 5), 6);
        due("39: it is thrown", x.lots(1, 7), 0);
        due("39: it is thrown", told(x, 0, 5), 7);
        due("39: nothing more", x.lots(20, 2147483646), 0);
        due("39: DEEDS", x.count(2), 22);
        due("39: FULL", x.lots(19, 1), FULL);
        due("39: just so many", x.lots(18, 1), 0);
        due("39: FULL", x.lots(1, 1), FULL);
        due("39: BAD ahead of FULL", x.lots(21, 1), BAD);
        due("39: none", x.lots(0, 1), BAD);
        due("39: seed 0", x.lots(1, 0), BAD);
        due("39: seed -1", x.lots(1, -1), BAD);
        due("39: seed 2147483647", x.lots(1, 2147483647), BAD);
        due("39: no CUPS", new AnnCups().lots(1, 1), STATE);
        due("39: BAD ahead of STATE", new AnnCups().lots(21, 1), BAD);
    }

    private static void asked() {
        AnnCups x = withBar(RING);
        x.make(0);
        lay(x, 0, 8, 2);
        x.at(0, 0);
        due("40: at()", x.asked(), 8);
        x.lay(0, 1, 4);
        due("40: lay()", x.asked(), 2);
        x.mean(0);
        due("40: mean()", x.asked(), 6);
        x.cup(1, 4);
        due("40: cup()", x.asked(), 2);
        x.runs(0);
        due("40: runs()", x.asked(), 0);
        x.alike();
        due("40: alike()", x.asked(), NONE);
        x.give();
        due("40: give()", x.asked(), 0);
        lay(x, 1, 1, 2);
        x.makes(1);
        due("40: makes()", x.asked(), 3);
        x.orders(0);
        x.mark(0, 1);
        x.holds(1);
        x.least(2);
        x.done(50, 2);
        x.reach(1);
        x.wag(1);
        x.odds(1, 3);
        x.mid(1);
        x.ears(1);
        x.at(3, 0);
        x.lay(9, 0, 0);
        x.mean(4);
        x.cup(9, 9);
        x.makes(5);
        x.runs(9);
        x.lots(2, 9);
        x.digest();
        due("40: others tell nothing", x.asked(), 3);
    }

    private static void upperAndLower() {
        AnnCups x = withBar("e9c1000c1011c1022");
        x.odds(2, 6);
        due("41: upper()", x.upper(), 1);
        due("42: lower()", x.lower(), 4);
        x.orders(0);
        due("41: of orders", x.upper(), 1);
        due("42: of orders", x.lower(), 1);
        x.mid(6);
        long up = x.upper();
        long low = x.lower();
        // gone are 0 (1 of 8): 1 and 2 are wrong; 1: 2 is; 0 and 1: 2 is; 0 and 2: 1 is
        due("41: of a mean", up, 5);
        due("42: of a mean", low, 8);
        x.odds(2, 13);
        x.mid(-1);
        x.orders(9);
        x.make(0);
        x.odds(0, 1);
        x.cup(0, 0);
        due("41: behind others", x.upper(), up);
        due("42: behind others", x.lower(), low);
    }

    private static void count() {
        AnnCups x = withBar(ALL);
        x.make(1);
        x.make(4);
        x.change(0, 2);
        x.keep(1);
        x.row(0, 1);
        x.row(5, 0);
        x.text(3, 0);
        int[] due = {6, 12, 3, 18, 16, 1, 2, 2, 5, 2, 2, 1};
        for (int what = 0; what < due.length; what++) {
            due("43: count(" + what + ")", x.count(what), due[what]);
        }
        due("43: count(12)", x.count(12), BAD);
        due("43: count(-1)", x.count(-1), BAD);
        x = withBar("e3j1000f1000d1000t1000d1000c1000");
        due("43: JUGS", x.count(6), 2);
        due("43: TEAS", x.count(7), 3);
        due("43: EARS", x.count(5), 3);
    }

    private static void findings() {
        AnnCups x = withBar(ALL);
        for (int f = 1; f <= 5; f++) {
            due("45: findings(" + f + ")", x.findings(f), 0);
        }
        due("44: finding()", x.finding(), 0);
        x.at(0, 0);
        x.tear(1);
        x.row(0, 0);
        x.at(0, 0);
        x.mean(0);
        x.mark(0, 1);
        x.mark(0, 2);
        x.mark(0, 3);
        due("44: the latest", x.finding(), UNLIKE);
        x.row(0, -1);
        x.make(9);
        x.toss(0);
        int[] due = {2, 1, 3, 1, 1};
        for (int f = 1; f <= 5; f++) {
            due("45: findings(" + f + ")", x.findings(f), due[f - 1]);
        }
        due("44: other refusals are no FINDINGS", x.finding(), SIZE);
        due("45: findings(0)", x.findings(0), BAD);
        due("45: findings(6)", x.findings(6), BAD);
        due("45: findings(-1)", x.findings(-1), BAD);
        x.row(0, 3);
        due("44: it stays", x.finding(), SIZE);
    }

    private static long mix(long h, long... values) {
        for (long v : values) {
            h = 31 * h + v;
        }
        return h;
    }

    private static void digest() {
        due("46: of a new object", new AnnCups().digest(),
            mix(17, 0, 0, 0, 0, 0, 0, 0, 0, 0, 0, 0, 0, -1, -1, -1, -1, -1, -1, -1, -1, -1, -1, -1, -1, -1));
        AnnCups x = withBar("e0c1005c1055");
        x.make(0);
        x.keep(1);
        lay(x, 2, -5, Integer.MAX_VALUE);
        x.row(4, 0);
        x.text(0, 2);
        x.put(0, 1, 200);
        x.text(3, 0);
        int asked = x.asked();
        long h = mix(17, 2, 1, 1, 1, 0, 0, 0, 0, 2, 2, 2, 1);
        h = mix(h, 0, 1, 0, 0, 5, 1);
        h = mix(h, 0, 1, 0, 5, 5, NONE);
        h = mix(h, NONE, 0);
        h = mix(h, -1, 1, -1);
        h = mix(h, -1, -1, 2, -5, Integer.MAX_VALUE, -1, 0, -1);
        h = mix(h, 2, 32, -56, -1, -1, 0);
        due("46: of a bar", x.digest(), h);
        due("46: it asks for nothing", x.asked(), asked);
    }
}
