/** Promises 10 to 14 and what the Terms say of a BAR's small language, KINDS, how long one TAKES and ALIKE names. */
public final class EdgesOfBarsTest {
    private static final int BAD = Edges.BAD, STATE = Edges.STATE, NONE = Edges.NONE;
    private static final int NOTHING = Edges.NOTHING, UNLIKE = Edges.UNLIKE;
    private static final int[] NO_TEXT = Edges.outside(0, 3);
    private static final String LETTERS = "cjtgfd", FIGURES = "0123456789";
    private static final String SIX = "c1000j2011t3022g4033f5044d6055";

    public static void main(String[] args) throws Exception {
        everyByte();
        everySeventh();
        blanks();
        endTooEarly();
        fullText();
        cupsOneToSix();
        fault();
        bar();
        barRefused();
        takes();
        takesBehindMilk();
        kinds();
        alikeNames();
        ghosts();
        people();
        cup();
        cupRefused();
        markOfJugs();
        markOfTeas();
        markOfGhosts();
        markOfFoamsAndDecafs();
        markRefused();
        holds();
        Edges.end(10, 14);
    }

    private static void dueFault(String s, int want) {
        AnnCups x = Edges.write(new AnnCups(), 1, s);
        Edges.due("fault of '" + s + "'", x.fault(1), want);
        int many = (s.replace(" ", "").length() - 2) / 5;
        Edges.due("bar of '" + s + "'", x.bar(1), want == NONE ? many : STATE);
        Edges.due("CUPS of '" + s + "'", x.count(0), want == NONE ? many : 0);
    }

    /** A byte at each place of a BAR: what may stand there, a blank, or a FAULT just there. */
    private static void everyByte() {
        Edges.sentence(0, "A FAULT is the first place at which it can't go on so (a letter, a figure that is none such");
        String plain = "e5c2123 ";
        String[] fit = {"e", FIGURES, LETTERS, "123456789", "0123", FIGURES, FIGURES, " "};
        for (int at = 0; at < plain.length(); at++) {
            for (int b = -128; b <= 127; b++) {
                int want = fit[at].indexOf((char) (b & 255)) >= 0 ? NONE : at;
                if (b == ' ' && (at == 0 || at == 2)) {
                    want = at + 1;
                }
                if (at == 7 && b > 0 && LETTERS.indexOf((char) b) >= 0) {
                    want = 8;
                }
                AnnCups x = Edges.write(new AnnCups(), 0, plain);
                x.put(0, at, b);
                Edges.due("byte " + b + " at " + at, x.fault(0), want);
                Edges.due("bar() with byte " + b + " at " + at, x.bar(0), want == NONE ? 1 : STATE);
            }
        }
        dueFault("c1000", 0);
        dueFault("1c1000", 0);
        dueFault("ec1000", 1);
        dueFault("ee1c1000", 1);
        dueFault("e1e1c1000", 2);
        dueFault("e11c1000", 2);
        dueFault("e1c1000e1", 7);
        dueFault("e1c10000", 7);
        dueFault("xc0999", 0);
        dueFault("e1x0999", 2);
        dueFault("e1c0999", 3);
        dueFault("e1c1999", 4);
    }

    private static void everySeventh() {
        Edges.sentence(0, "a seventh CUP: its place;");
        for (int b = -128; b <= 127; b++) {
            AnnCups x = Edges.write(new AnnCups(), 0, "e1" + SIX + " ");
            x.put(0, 32, b);
            Edges.due("byte " + b + " behind six CUPS", x.fault(0), b == ' ' ? NONE : 32);
        }
        dueFault("e1" + SIX + "c1000", 32);
        dueFault("e1" + SIX + "   c1000", 35);
        dueFault("e1" + SIX + "c", 32);
        dueFault("e1" + SIX + " c0", 33);
        dueFault("e1" + SIX + SIX.substring(0, 25), 32);
        dueFault("e1" + SIX, NONE);
        dueFault("e1" + SIX + "  ", NONE);
        dueFault("e1" + SIX.substring(0, 25), NONE);
    }

    private static void blanks() {
        Edges.sentence(0, "blanks (32) ahead, between, behind as many as wanted, none within items.");
        dueFault("e1c1000c2111", NONE);
        dueFault(" e1 c1000 c2111 ", NONE);
        dueFault("     e1      c1000        c2111          ", NONE);
        dueFault("e 1c1000", 1);
        dueFault("e1c 1000", 3);
        dueFault("e1c1 000", 4);
        dueFault("e1c10 00", 5);
        dueFault("e1c100 0", 6);
        dueFault("e1c1000c 2111", 8);
        dueFault("e1c1000c2 111", 9);
        dueFault("e1c1000c21 11", 10);
        dueFault("e1c1000c211 1", 11);
        AnnCups x = Edges.bar("   e7    t5138  ");
        Edges.due("EARS", x.count(5), 7);
        Edges.due("the KIND", Edges.of(x, 0, 0), 2);
        Edges.due("the MILK", Edges.of(x, 0, 2), 1);
        Edges.due("the NAME", Edges.of(x, 0, 3), 3);
        Edges.due("the one WRITTEN", Edges.of(x, 0, 4), 8);
    }

    private static void endTooEarly() {
        Edges.sentence(0, "the TEXT's size, if its end comes too early, or there are blanks alone).");
        String whole = "e1" + SIX;
        for (int n = 0; n <= whole.length(); n++) {
            dueFault(whole.substring(0, n), n >= 7 && n % 5 == 2 ? NONE : n);
        }
        for (int n = 0; n <= 60; n++) {
            dueFault(" ".repeat(n), n);
        }
        dueFault("e1 ", 3);
        dueFault("  e1     ", 9);
        dueFault("  e", 3);
        dueFault("e1c1000 c", 9);
        dueFault("e1c1000  c21", 12);
    }

    private static void fullText() {
        Edges.sentence(0, "TEXTS 0 .. 3 rows of 0 to 60 bytes");
        String blanks = " ".repeat(60);
        dueFault(blanks.substring(0, 59) + "e", 60);
        dueFault(blanks.substring(0, 58) + "e1", 60);
        dueFault(blanks.substring(0, 54) + "e1c100", 60);
        dueFault(blanks.substring(0, 53) + "e1c1000", NONE);
        dueFault(blanks.substring(0, 28) + "e1" + SIX, NONE);
        dueFault("e1" + blanks.substring(0, 28) + SIX, NONE);
        dueFault("e1" + SIX + blanks.substring(0, 28), NONE);
        dueFault("e1" + SIX + blanks.substring(0, 27) + "x", 59);
        dueFault("e1" + SIX + blanks.substring(0, 27) + "c", 59);
        dueFault(blanks.substring(0, 29) + "e1" + SIX.substring(0, 29), 60);
    }

    private static void cupsOneToSix() {
        Edges.sentence(0, "Then CUPS (1 to 6; 0, 1, .. as they come)");
        for (int n = 0; n <= 6; n++) {
            dueFault("e1" + SIX.substring(0, 5 * n), n == 0 ? 2 : NONE);
        }
        AnnCups x = Edges.bar("e1" + SIX);
        for (int i = 0; i < 6; i++) {
            Edges.due("the KIND of CUP " + i, Edges.of(x, i, 0), i);
            Edges.due("the NAME of CUP " + i, Edges.of(x, i, 3), i);
        }
        Edges.sentence(0, "SECONDS (1 .. 9), the MILK (0 .. 3), the NAME of who ordered it (0 .. 9), the one that was WRITTEN on it");
        x = Edges.bar("e0c1000c9399");
        Edges.due("least SECONDS", Edges.of(x, 0, 1), 1);
        Edges.due("greatest SECONDS", Edges.of(x, 1, 1), 9);
        for (int what = 2; what <= 4; what++) {
            Edges.due("the least of " + what, Edges.of(x, 0, what), 0);
            Edges.due("the greatest of " + what, Edges.of(x, 1, what), what == 2 ? 3 : 9);
        }
        for (int ears = 0; ears <= 9; ears++) {
            Edges.due("EARS " + ears, Edges.bar("e" + ears + "c1000").count(5), ears);
        }
    }

    private static void fault() {
        Edges.sentence(10, "A FAULT of a TEXT; NONE: there is none. BAD; NOTHING.");
        for (int t : NO_TEXT) {
            Edges.refused("fault(" + t + ")", Edges::busy, BAD, x -> x.fault(t));
            Edges.refused("fault(" + t + ")", AnnCups::new, BAD, x -> x.fault(t));
        }
        Edges.finds("a missing one", Edges::busy, NOTHING, x -> x.fault(3));
        for (int t = 0; t <= 3; t++) {
            int text = t;
            Edges.finds("fault(" + t + ")", AnnCups::new, NOTHING, x -> x.fault(text));
            Edges.due("none of TEXT " + t, Edges.write(new AnnCups(), t, "e0c1000").fault(t), NONE);
        }
        // what is answered is no refusal, and yet it leaves all as it was
        Edges.refused("none", Edges::busy, NONE, x -> x.fault(0));
        Edges.refused("of an empty one", Edges::busy, 0, x -> x.fault(1));
        Edges.refused("of one that is cut", Edges::busy, 4, x -> x.fault(2));
    }

    private static void bar() {
        Edges.sentence(11, "A BAR by a TEXT (anew: TIME 0, nothing made, no DEEDS; kept BARS go): how many CUPS.");
        for (Edges.Setting setting : new Edges.Setting[] {Edges::bare, Edges::busy, Edges::filled}) {
            for (int n = 1; n <= 6; n++) {
                String s = "e3" + SIX.substring(0, 5 * n);
                AnnCups x = Edges.write(setting.made(), 3, s);
                AnnCups fresh = Edges.write(Edges.bare(), 3, s);
                int texts = x.count(10);
                Edges.due("bar(3) of " + n, x.bar(3), n);
                fresh.bar(3);
                int[] due = {n, 0, 0, 0, 0, 3, fresh.count(6), fresh.count(7), 0, 5, texts, 0};
                for (int what = 0; what < due.length; what++) {
                    Edges.due("count(" + what + ") of " + n, x.count(what), due[what]);
                }
                for (int k = 0; k <= 2; k++) {
                    Edges.due("on(" + k + ")", x.on(k), Edges.FINDING);
                }
                for (int i = 0; i < n; i++) {
                    Edges.due("where CUP " + i + " is", Edges.of(x, i, 5), NONE);
                    Edges.due("how long it would take", Edges.of(x, i, 1), Edges.of(fresh, i, 1));
                    Edges.due("who would take it", x.reach(i), fresh.reach(i));
                    Edges.due("what PERSON " + i + " holds", x.holds(i), NONE);
                }
                Edges.due("no DEEDS to undo", x.undo(0), 0);
            }
        }
        AnnCups x = Edges.busy();
        Edges.due("by the same TEXT again", x.bar(0), 6);
        Edges.due("DEEDS", x.count(2), 0);
        long before = x.least(3);
        x.text(0, 0);
        Edges.due("the TEXT goes, the BAR stays", x.least(3), before);
        x = Edges.write(Edges.busy(), 0, "e0g1000c1010g1000");
        Edges.due("other PEOPLE are there", x.bar(0), 3);
        Edges.due("not who was there ahead of it", x.whose(0), 0);
        Edges.due("nobody takes CUP 0", x.make(0), NONE);
        Edges.due("who is there now", Edges.write(x, 0, "e0c1000c1010c1000").bar(0), 3);
        Edges.due("0 and 2 are", x.whose(0), 1 + 4);
    }

    private static void barRefused() {
        Edges.sentence(11, "how many CUPS. BAD; NOTHING; STATE: a FAULT. (STATE behind NOTHING.)");
        for (int t : NO_TEXT) {
            Edges.refused("bar(" + t + ")", Edges::busy, BAD, x -> x.bar(t));
            Edges.refused("bar(" + t + ")", Edges::filled, BAD, x -> x.bar(t));
        }
        for (Edges.Setting setting : new Edges.Setting[] {Edges::bare, Edges::busy, Edges::filled}) {
            Edges.finds("a missing one", setting, NOTHING, x -> x.bar(3));
            Edges.refused("an empty one", setting, STATE, x -> x.bar(1));
            Edges.refused("one that is cut", setting, STATE, x -> x.bar(2));
        }
        for (String s : new String[] {"e9d9399d9398 x", "e9" + SIX + "c", "e9d9399d939", "e9d9399d0398"}) {
            Edges.refused("a FAULT behind CUPS", () -> Edges.write(Edges.busy(), 3, s), STATE, x -> x.bar(3));
        }
    }

    private static void dueTakes(String letter, boolean milkAhead, int... want) {
        for (int seconds = 1; seconds <= 9; seconds++) {
            AnnCups x = Edges.bar("e0c1200" + letter + seconds + (milkAhead ? 2 : 1) + "11");
            x.make(0);
            String what = letter + " of " + seconds + (milkAhead ? " behind its milk" : "");
            Edges.due(what, Edges.of(x, 1, 1), want[seconds - 1]);
            x.make(1);
            Edges.due(what + ", TIME", x.count(1), 1 + want[seconds - 1]);
        }
    }

    private static void takes() {
        Edges.sentence(0, "How long one TAKES to make: SECONDS;");
        dueTakes("c", false, 1, 2, 3, 4, 5, 6, 7, 8, 9);
        dueTakes("g", false, 1, 2, 3, 4, 5, 6, 7, 8, 9);
        dueTakes("c", true, 1, 2, 3, 4, 5, 6, 7, 8, 9);
        dueTakes("g", true, 1, 2, 3, 4, 5, 6, 7, 8, 9);
        Edges.sentence(0, "a JUG half of that (cut, 1 at least), if the CUP made ahead of it had its MILK;");
        dueTakes("j", false, 1, 2, 3, 4, 5, 6, 7, 8, 9);
        dueTakes("j", true, 1, 1, 1, 2, 2, 3, 3, 4, 4);
        Edges.sentence(0, "a FOAM twice a JUG;");
        dueTakes("f", false, 2, 4, 6, 8, 10, 12, 14, 16, 18);
        dueTakes("f", true, 2, 2, 2, 4, 4, 6, 6, 8, 8);
        Edges.sentence(0, "a TEA 2 less than a CUP (1 at least);");
        dueTakes("t", false, 1, 1, 1, 2, 3, 4, 5, 6, 7);
        dueTakes("t", true, 1, 1, 1, 2, 3, 4, 5, 6, 7);
        Edges.sentence(0, "a DECAF 3 more than a TEA.");
        dueTakes("d", false, 4, 4, 4, 5, 6, 7, 8, 9, 10);
        dueTakes("d", true, 4, 4, 4, 5, 6, 7, 8, 9, 10);
    }

    private static void takesBehindMilk() {
        Edges.sentence(0, "if the CUP made ahead of it had its MILK");
        for (int milk = 0; milk <= 3; milk++) {
            AnnCups first = Edges.bar("e0j9" + milk + "00f9" + milk + "11");
            Edges.due("none is ahead of a JUG of MILK " + milk, Edges.of(first, 0, 1), 9);
            Edges.due("none is ahead of a FOAM of MILK " + milk, Edges.of(first, 1, 1), 18);
            for (int ahead = 0; ahead <= 3; ahead++) {
                for (int kind = 0; kind < 6; kind++) {
                    AnnCups x = Edges.bar("e0" + LETTERS.charAt(kind) + "9" + ahead + "00j9" + milk + "11");
                    x.make(0);
                    Edges.due("MILK " + milk + " behind " + ahead, Edges.of(x, 1, 1), milk == ahead ? 4 : 9);
                }
            }
        }
        AnnCups x = Edges.make(Edges.bar("e0c1200c1100j8222"), 0, 1);
        Edges.due("the one ahead of that does not count", Edges.of(x, 2, 1), 8);
        x = Edges.make(Edges.bar("e0c1209c1100j8222"), 1, 0);
        Edges.due("it counts, if it STANDS", Edges.of(x, 2, 1), 4);
        x.toss(0);
        Edges.due("it counts, if it is THROWN", Edges.of(x, 2, 1), 4);
        x.change(0, 1);
        Edges.due("it counts, if hands change", Edges.of(x, 2, 1), 4);
        x.undo(1);
        Edges.due("it does not, if it is undone", Edges.of(x, 2, 1), 8);
        x.make(0);
        x.keep(0);
        x.undo(1);
        x.on(0);
        Edges.due("it counts, if the BAR is as it was kept", Edges.of(x, 2, 1), 4);
    }

    private static void kinds() {
        Edges.sentence(0, "0 CUP (c, 99), 1 JUG (j, 106; a CUP), 2 TEA (t, 116; a CUP), 3 GHOST (g, 103; a CUP), "
            + "4 FOAM (f, 102; a JUG), 5 DECAF (d, 100; a TEA).");
        int[] letters = {99, 106, 116, 103, 102, 100};
        for (int kind = 0; kind <= 5; kind++) {
            AnnCups x = Edges.bar("e0" + (char) letters[kind] + "1000");
            Edges.due("the KIND by " + letters[kind], Edges.of(x, 0, 0), kind);
            Edges.due("JUGS", x.count(6), kind == 1 || kind == 4 ? 1 : 0);
            Edges.due("TEAS", x.count(7), kind == 2 || kind == 5 ? 1 : 0);
        }
    }

    private static void alikeNames() {
        Edges.sentence(0, "NAMES are ALIKE, if they differ by EARS at most.");
        for (int ears = 0; ears <= 9; ears++) {
            for (int name = 0; name <= 9; name++) {
                for (int written = 0; written <= 9; written++) {
                    boolean alike = name - written <= ears && written - name <= ears;
                    AnnCups x = Edges.bar("e" + ears + "c10" + name + written);
                    Edges.due("whose(0), " + ears + name + written, x.whose(0), alike ? 1 : 0);
                    Edges.due("make(0), " + ears + name + written, x.make(0), alike ? 0 : NONE);
                }
            }
        }
    }

    private static void ghosts() {
        Edges.sentence(0, "PEOPLE of GHOSTS are not there (who is at the telephone): they wait for nothing, take nothing.");
        AnnCups x = Edges.bar("e9g1000g1011");
        Edges.due("nobody is there", x.whose(0), 0);
        Edges.due("nobody takes it", x.make(0), NONE);
        Edges.due("it STANDS", x.count(4), 1);
        Edges.due("nobody has HAD anything", x.count(8), 0);
        Edges.due("nobody waits", x.least(0), 0);
        Edges.due("nobody waits for the latest", x.latest(0), x.count(1));
        x = Edges.bar("e9g1000c1011g1022c1033");
        Edges.due("the first who is there", x.make(2), 1);
        Edges.due("the next who is there", x.make(0), 3);
        Edges.due("nobody is left", x.make(1), NONE);
        Edges.due("who has HAD something", x.count(8), 2 + 8);
    }

    private static void cup() {
        Edges.sentence(12, "5 where it is (NONE: not made, 0 .. 5 who holds it, 6 it STANDS, 7 THROWN), told by asked(): 1.");
        AnnCups x = Edges.bar("e0c1005c1010c1029c1039c1049c1051");
        for (int i = 0; i < 6; i++) {
            Edges.dueAsked("not made", x, x.cup(i, 5), 1, NONE);
        }
        Edges.make(x, 0, 1, 2, 5);
        Edges.dueAsked("5 holds it", x, x.cup(0, 5), 1, 5);
        Edges.dueAsked("0 holds it", x, x.cup(1, 5), 1, 0);
        Edges.dueAsked("1 holds it", x, x.cup(5, 5), 1, 1);
        Edges.dueAsked("it STANDS", x, x.cup(2, 5), 1, 6);
        x.toss(2);
        Edges.dueAsked("it is THROWN", x, x.cup(2, 5), 1, 7);
        x.change(5, 4);
        Edges.dueAsked("4 holds it", x, x.cup(0, 5), 1, 4);
        Edges.sentence(12, "1 how long it would TAKE now");
        Edges.due("at first", Edges.of(Edges.bar("e0f9000"), 0, 1), 18);
        // the document does not say which CUP is ahead of one that is made: it is the one made last
        x = Edges.make(Edges.bar("e0j8000f6011j4122"), 0);
        Edges.due("of the one made last", Edges.of(x, 0, 1), 4);
        x.make(2);
        Edges.due("of one made ahead of the last", Edges.of(x, 0, 1), 8);
        Edges.due("of one that is not made", Edges.of(x, 1, 1), 12);
    }

    private static void people() {
        Edges.sentence(0, "PERSON i waits for CUP i (as many PEOPLE as CUPS).");
        for (int n = 1; n <= 6; n++) {
            String s = "e0" + SIX.substring(0, 5 * n);
            for (int p = 0; p < n; p++) {
                Edges.due("PERSON " + p + " of " + n, Edges.bar(s).holds(p), NONE);
                Edges.due("takes the own CUP", Edges.bar(s).make(p), p == 3 ? NONE : p);
            }
            for (int p : Edges.outside(0, n - 1)) {
                Edges.refused("PERSON " + p + " of " + n, () -> Edges.bar(s), BAD, x -> x.holds(p));
            }
        }
    }

    private static void cupRefused() {
        Edges.sentence(12, "told by asked(): 1. BAD.");
        for (int n = 1; n <= 6; n++) {
            String s = "e0" + SIX.substring(0, 5 * n);
            for (int i : Edges.outside(0, n - 1)) {
                Edges.refused("cup(" + i + ", 0) of " + n, () -> Edges.bar(s), BAD, x -> x.cup(i, 0));
            }
        }
        for (int what : Edges.outside(0, 5)) {
            Edges.refused("cup(0, " + what + ")", Edges::busy, BAD, x -> x.cup(0, what));
        }
        Edges.refused("cup(0, 0) without CUPS", Edges::bare, BAD, x -> x.cup(0, 0));
        Edges.refused("cup(0, 5) without CUPS", Edges::bare, BAD, x -> x.cup(0, 5));
    }

    private static void markOfJugs() {
        Edges.sentence(13, "a JUG (FOAM, too) how many other CUPS of its MILK are not made");
        AnnCups x = Edges.bar("e0j2000c2011t2022g2033f2044d2055");
        Edges.due("all others", x.mark(0, 1), 5);
        Edges.due("all others, of a FOAM", x.mark(4, 1), 5);
        x.make(0);
        Edges.due("all others yet", x.mark(0, 1), 5);
        Edges.due("but for one", x.mark(4, 1), 4);
        Edges.make(x, 1, 2, 3, 5);
        Edges.due("one is left", x.mark(0, 1), 1);
        Edges.due("itself is left", x.mark(4, 1), 0);
        x.make(4);
        Edges.due("none is left", x.mark(0, 1), 0);
        Edges.due("one alone", Edges.bar("e0j1000").mark(0, 1), 0);
        Edges.due("another MILK", Edges.bar("e0j1000c1100c1300").mark(0, 1), 0);
    }

    private static void markOfTeas() {
        Edges.sentence(13, "a TEA (DECAF, too) how many other CUPS that are not made would TAKE longer now than it");
        AnnCups x = Edges.bar("e0t1000c2011c2022g2033f1044d1055");
        Edges.due("all others", x.mark(0, 2), 5);
        Edges.due("none, of a DECAF", x.mark(5, 2), 0);
        x.make(0);
        Edges.due("all others yet", x.mark(0, 2), 5);
        Edges.make(x, 1, 2, 3, 4, 5);
        Edges.due("none is left", x.mark(0, 2), 0);
        x = Edges.bar("e0t5000c3011c4022t5033");
        Edges.due("not those that take as long", x.mark(0, 2), 1);
        x = Edges.bar("e0t6100j8011f4022c1033");
        Edges.due("JUGS take long", x.mark(0, 2), 2);
        x.make(3);
        Edges.due("now they take as long", x.mark(0, 2), 0);
        Edges.due("one alone", Edges.bar("e0d1000").mark(0, 2), 0);
        x = Edges.bar("e0c9000t1011d1022");
        Edges.due("the first CUP, too", x.mark(1, 2), 2);
        Edges.due("the first CUP alone", x.mark(2, 2), 1);
    }

    private static void markOfGhosts() {
        Edges.sentence(13, "a GHOST how many PEOPLE who are there have a NAME ALIKE the one WRITTEN on it");
        AnnCups x = Edges.bar("e0g1005c1050c1050c1050c1050c1050");
        Edges.due("all others", x.mark(0, 3), 5);
        x.make(0);
        Edges.due("one has HAD something", x.mark(0, 3), 5);
        x = Edges.bar("e0g1055g1050c1040");
        Edges.due("none who is not there", x.mark(0, 3), 0);
        x = Edges.bar("e2g1005c1020c1030c1070c1080");
        Edges.due("by EARS just so", x.mark(0, 3), 2);
    }

    private static void markOfFoamsAndDecafs() {
        Edges.sentence(13, "a FOAM what it would TAKE behind a CUP of its MILK, a DECAF what its TEA would TAKE.");
        int[] foam = {2, 2, 2, 4, 4, 6, 6, 8, 8};
        int[] decaf = {1, 1, 1, 2, 3, 4, 5, 6, 7};
        for (int seconds = 1; seconds <= 9; seconds++) {
            AnnCups x = Edges.bar("e0f" + seconds + "000d" + seconds + "000c1100");
            Edges.due("a FOAM of " + seconds, x.mark(0, 4), foam[seconds - 1]);
            Edges.due("a DECAF of " + seconds, x.mark(1, 5), decaf[seconds - 1]);
            Edges.make(x, 0, 1, 2);
            Edges.due("a made FOAM of " + seconds, x.mark(0, 4), foam[seconds - 1]);
            Edges.due("a made DECAF of " + seconds, x.mark(1, 5), decaf[seconds - 1]);
        }
    }

    private static void markRefused() {
        Edges.sentence(13, "BAD: also KIND 0; UNLIKE.");
        boolean[][] is = {
            {false, false, false, false, false}, {true, false, false, false, false}, {false, true, false, false, false},
            {false, false, true, false, false}, {true, false, false, true, false}, {false, true, false, false, true}};
        for (int i = 0; i < 6; i++) {
            int cup = i;
            for (int kind = 1; kind <= 5; kind++) {
                int asked = kind;
                if (is[i][kind - 1]) {
                    Edges.due("mark(" + i + ", " + kind + ")", Edges.busy().mark(i, kind) >= 0 ? 1 : 0, 1);
                } else {
                    Edges.finds("mark(" + i + ", " + kind + ")", Edges::busy, UNLIKE, x -> x.mark(cup, asked));
                }
            }
            for (int kind : Edges.outside(1, 5)) {
                Edges.refused("mark(" + i + ", " + kind + ")", Edges::busy, BAD, x -> x.mark(cup, kind));
            }
        }
        for (int i : Edges.outside(0, 5)) {
            for (int kind = 0; kind <= 6; kind++) {
                int asked = kind;
                Edges.refused("mark(" + i + ", " + kind + ")", Edges::busy, BAD, x -> x.mark(i, asked));
            }
        }
        Edges.refused("CUP 3 of three", Edges::filled, BAD, x -> x.mark(3, 1));
        Edges.refused("without CUPS", Edges::bare, BAD, x -> x.mark(0, 1));
    }

    private static void holds() {
        Edges.sentence(14, "What a PERSON holds (a CUP; NONE: nothing). BAD.");
        AnnCups x = Edges.make(Edges.bar("e0c1005g1019c1029c1039c1049c1050"), 0);
        int[] due = {NONE, NONE, NONE, NONE, NONE, 0};
        for (int p = 0; p < 6; p++) {
            Edges.due("holds(" + p + ")", x.holds(p), due[p]);
        }
        x.make(5);
        Edges.due("holds(0)", x.holds(0), 5);
        x.change(0, 2);
        Edges.due("holds(0), CUP 5 given away", x.holds(0), NONE);
        Edges.due("holds(2), CUP 5 come", x.holds(2), 5);
        for (int p : Edges.outside(0, 5)) {
            Edges.refused("holds(" + p + ")", Edges::busy, BAD, y -> y.holds(p));
        }
        for (int p : Edges.outside(0, 2)) {
            Edges.refused("holds(" + p + ") of three", Edges::filled, BAD, y -> y.holds(p));
        }
        Edges.refused("without CUPS", Edges::bare, BAD, y -> y.holds(0));
    }
}
