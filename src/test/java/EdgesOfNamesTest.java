/** Promises 30 to 39: names, from who held what, turns, chances, LOTS; every sentence that names a boundary case. */
public final class EdgesOfNamesTest {
    private static final int BAD = Edges.BAD, FULL = Edges.FULL, STATE = Edges.STATE, NONE = Edges.NONE;
    private static final int NOTHING = Edges.NOTHING, UNLIKE = Edges.UNLIKE, SIZE = Edges.SIZE;
    private static final int LEAST = Edges.LEAST, MOST = Edges.MOST;
    private static final int ALL_EARS = 1023, LAST_SEED = 2147483646;
    private static final int[] NO_ROW = Edges.outside(0, 5);

    public static void main(String[] args) throws Exception {
        whose();
        alike();
        give();
        reach();
        ears();
        earsFromNow();
        earsSize();
        earsUnlike();
        earsRefused();
        kinds();
        kindsRefused();
        wag();
        wagRefused();
        odds();
        oddsOfOthers();
        oddsRefused();
        mid();
        midRefused();
        lots();
        lotsOfDeeds();
        lotsRefused();
        Edges.end(30, 39);
    }

    private static void cupsBad(String name, java.util.function.ToIntBiFunction<AnnCups, Integer> call) {
        for (int i : Edges.outside(0, 5)) {
            Edges.refused(name + "(" + i + ")", Edges::busy, BAD, x -> call.applyAsInt(x, i));
        }
        for (int i : Edges.outside(0, 2)) {
            Edges.refused(name + "(" + i + ") of three", Edges::filled, BAD, x -> call.applyAsInt(x, i));
        }
        Edges.refused(name + "(0) without CUPS", Edges::bare, BAD, x -> call.applyAsInt(x, 0));
    }

    private static void whose() {
        Edges.sentence(30, "PEOPLE (bits) there whose NAME is ALIKE the one WRITTEN on a CUP. BAD.");
        AnnCups x = Edges.bar("e9c1000c1010c1020c1030c1040c1099");
        Edges.due("all six", x.whose(0), 63);
        Edges.due("all six, of the last", x.whose(5), 63);
        Edges.due("those who have HAD something, too", Edges.make(x, 0, 1, 2, 3, 4, 5).whose(5), 63);
        x = Edges.bar("e8c1000c1010c1020c1030c1040c1099");
        Edges.due("but for the last", x.whose(0), 31);
        Edges.due("but for the first", x.whose(5), 62);
        x = Edges.bar("e9g1000c1010g1020c1030g1040c1099");
        Edges.due("those who are there", x.whose(0), 2 + 8 + 32);
        Edges.due("nobody", Edges.bar("e0c1001").whose(0), 0);
        Edges.due("a GHOST alone", Edges.bar("e9g1000").whose(0), 0);
        cupsBad("whose", (y, i) -> y.whose(i));
    }

    private static void dueAlike(String bar, int pairs, int first) {
        AnnCups x = Edges.bar(bar);
        Edges.dueAsked("alike() of '" + bar + "'", x, x.alike(), pairs, first);
    }

    private static void alike() {
        Edges.sentence(31, "how many; the first by asked() (6 times the lesser, and the other; NONE).");
        dueAlike("", 0, NONE);
        dueAlike("e9c1000", 0, NONE);
        dueAlike("e9c1000c1090", 1, 1);
        dueAlike("e8c1000c1090", 0, NONE);
        dueAlike("e8c1010c1090", 1, 1);
        dueAlike("e8c1090c1010", 1, 1);
        dueAlike("e0c1000c1010c1020c1030c1050c1050", 1, 6 * 4 + 5);
        dueAlike("e0c1000c1010c1020c1030c1050c1000", 1, 5);
        dueAlike("e9c1000c1010c1020c1030c1040c1050", 15, 1);
        dueAlike("e9g1000c1010g1020c1030g1040g1050", 1, 6 + 3);
        dueAlike("e9g1000g1010g1020g1030g1040c1050", 0, NONE);
        dueAlike("e0c1040c1010c1040c1010c1010c1040", 6, 2);
        AnnCups x = Edges.bare();
        Edges.dueAsked("without CUPS", x, x.alike(), 0, NONE);
        Edges.due("it is not refused", x.findings(1), 0);
        x = Edges.make(Edges.bar("e0c1000c1000"), 0, 1);
        Edges.dueAsked("those who have HAD something, too", x, x.alike(), 1, 1);
    }

    private static void dueGive(String bar, int name, int many) {
        AnnCups x = Edges.bar(bar);
        Edges.dueAsked("give() of '" + bar + "'", x, x.give(), name, many);
    }

    private static void give() {
        Edges.sentence(32, "The NAME (0 .. 9; the first) that one should give: ALIKE fewest of those who are there; how many by "
            + "asked(). STATE: no CUPS.");
        dueGive("e9c1000", 0, 1);
        dueGive("e9c1000c1010c1020c1030c1040c1090", 0, 6);
        dueGive("e9g1000", 0, 0);
        dueGive("e0g1000g1010", 0, 0);
        dueGive("e0c1000", 1, 0);
        dueGive("e8c1000", 9, 0);
        dueGive("e8c1090", 0, 0);
        dueGive("e8c1000c1090", 0, 1);
        dueGive("e8c1010c1090", 0, 1);
        dueGive("e8c1010c1080", 0, 2);
        dueGive("e3c1000c1020c1040c1060", 8, 1);
        dueGive("e4c1000c1020c1040c1050", 9, 1);
        dueGive("e0c1000c1010c1020c1030c1040c1050", 6, 0);
        dueGive("e1c1010c1040c1070", 9, 0);
        AnnCups x = Edges.make(Edges.bar("e0c1000"), 0);
        Edges.dueAsked("who has HAD something, too", x, x.give(), 1, 0);
        Edges.refused("without CUPS", Edges::bare, STATE, y -> y.give());
        Edges.refused("without CUPS", AnnCups::new, STATE, y -> y.give());
    }

    private static void reach() {
        Edges.sentence(33, "Who would take a CUP, if it was CALLED now (made, or not). NONE: nobody. BAD.");
        AnnCups x = Edges.bar("e0c1000c1000c1009g1000");
        Edges.due("the first", x.reach(1), 0);
        Edges.due("of a GHOST's", x.reach(3), 0);
        Edges.due("nobody", x.reach(2), NONE);
        x.make(0);
        Edges.due("one that is held", x.reach(0), 1);
        Edges.due("one that is not made", x.reach(1), 1);
        x.make(2);
        Edges.due("one that STANDS", x.reach(2), NONE);
        x.toss(2);
        Edges.due("one that is THROWN", x.reach(2), NONE);
        x.change(0, 2);
        Edges.due("who gave it away takes nothing", x.reach(0), 1);
        x.make(1);
        Edges.due("nobody is left", x.reach(0), NONE);
        Edges.due("DEEDS", x.count(2), 5);
        Edges.due("the last", Edges.bar("e0c1005c1010c1010c1010c1010c1050").reach(0), 5);
        Edges.due("forty DEEDS are no matter", Edges.filled().reach(1), 2);
        cupsBad("reach", (y, i) -> y.reach(i));
    }

    private static void dueEars(AnnCups x, int want, int... pairs) {
        Edges.lay(x, 5, pairs);
        long before = x.digest();
        Edges.due("ears() by " + java.util.Arrays.toString(pairs), x.ears(5), want);
        Edges.due("nothing is done", x.digest(), before);
    }

    /** Bits from EARS first to EARS last. */
    private static int from(int first, int last) {
        return (2 << last) - (1 << first);
    }

    private static void ears() {
        Edges.sentence(34, "Which EARS (bits 0 .. 9) there can be by a ROW of pairs (a CUP, who took it: 0 .. 5, or NONE; 0 to 6 pairs)");
        AnnCups x = Edges.bar("e4c1000c1009");
        dueEars(x, ALL_EARS);
        dueEars(x, ALL_EARS, 0, 0);
        dueEars(x, 1 << 9, 1, 0);
        dueEars(x, from(0, 8), 1, NONE);
        dueEars(x, 0, 0, NONE);
        dueEars(x, 0, 1, 1);
        dueEars(x, from(0, 8), 0, 0, 1, NONE);
        dueEars(x, 1 << 9, 0, 0, 1, 1);
        dueEars(x, 0, 0, 0, 1, 0);
        dueEars(x, 1 << 9, 1, 0, 0, 1);
        dueEars(x, from(0, 8), 1, NONE, 0, 0);
        x = Edges.bar("e0c1005c1015c1025c1035c1045c1055");
        dueEars(x, 1, 0, 5);
        dueEars(x, 1 << 1, 0, 4);
        dueEars(x, 1 << 4, 0, 1);
        dueEars(x, from(5, 9), 0, 0);
        dueEars(x, from(5, 9), 0, 0, 1, 1, 2, 2, 3, 3, 4, 4, 5, 5);
        dueEars(x, 1, 5, 5, 4, NONE, 3, NONE, 2, NONE, 1, NONE, 0, NONE);
        dueEars(x, 1 << 1, 5, 4, 4, 5, 3, NONE);
        x = Edges.bar("e9g1000c1099");
        dueEars(x, 0, 0, 0);
        dueEars(x, 1 << 9, 0, 1);
        dueEars(x, from(0, 8), 0, NONE);
        dueEars(x, 0, 1, 0);
    }

    private static void earsFromNow() {
        Edges.sentence(34, "made so one behind the other from now on, each was taken so.");
        AnnCups x = Edges.make(Edges.bar("e0c1000c1000c1000"), 0);
        dueEars(x, ALL_EARS);
        dueEars(x, ALL_EARS, 1, 1);
        dueEars(x, 0, 1, 0);
        dueEars(x, 0, 1, 2);
        dueEars(x, ALL_EARS, 2, 1, 1, 2);
        x.change(0, 2);
        dueEars(x, ALL_EARS, 1, 1, 2, NONE);
        dueEars(x, 0, 1, 2);
        x = Edges.filled();
        dueEars(x, 1 << 9, 2, 2);
        dueEars(x, from(0, 8), 2, NONE);
        x = Edges.make(Edges.bar("e0c1000"), 0);
        dueEars(x, ALL_EARS);
    }

    private static Edges.Setting laid(Edges.Setting setting, int... ints) {
        return () -> {
            AnnCups x = Edges.lay(setting.made(), 5, ints);
            x.at(0, 1);
            return x;
        };
    }

    private static void earsSize() {
        Edges.sentence(0, "5 SIZE (fewer than none; too many, not as many as due)");
        for (int n = 0; n <= 40; n++) {
            int[] ints = new int[n];
            java.util.Arrays.fill(ints, 99);
            if (n > 12 || n % 2 != 0) {
                Edges.finds(n + " numbers, SIZE ahead of UNLIKE", laid(Edges::busy, ints), SIZE, x -> x.ears(5));
            } else if (n > 0) {
                Edges.finds(n + " numbers", laid(Edges::busy, ints), UNLIKE, x -> x.ears(5));
            }
        }
    }

    private static void earsUnlike() {
        Edges.sentence(34, "UNLIKE: no CUP, one that is made, one twice, no PERSON, nor NONE. (In this order.)");
        for (int v : Edges.outside(0, 5)) {
            Edges.finds("no CUP: " + v, laid(Edges::busy, v, NONE), UNLIKE, x -> x.ears(5));
            Edges.finds("no CUP behind others: " + v, laid(Edges::busy, 2, 4, v, NONE), UNLIKE, x -> x.ears(5));
            if (v != NONE) {
                Edges.finds("no PERSON: " + v, laid(Edges::busy, 2, v), UNLIKE, x -> x.ears(5));
                Edges.finds("no PERSON behind others: " + v, laid(Edges::busy, 2, 4, 3, v), UNLIKE, x -> x.ears(5));
            }
        }
        Edges.finds("NONE is no CUP", laid(Edges::busy, NONE, 0), UNLIKE, x -> x.ears(5));
        for (int v : new int[] {-8, -10, -1, 6, LEAST, MOST}) {
            Edges.finds("no PERSON, where it can't be anyhow: " + v, laid(Edges::busy, 2, 0, 3, v), UNLIKE, x -> x.ears(5));
        }
        Edges.finds("one that is held", laid(Edges::busy, 0, NONE), UNLIKE, x -> x.ears(5));
        Edges.finds("one that is THROWN", laid(Edges::busy, 4, NONE), UNLIKE, x -> x.ears(5));
        Edges.finds("one that STANDS", laid(Edges::filled, 0, NONE), UNLIKE, x -> x.ears(5));
        Edges.finds("one twice", laid(Edges::busy, 2, 4, 2, 4), UNLIKE, x -> x.ears(5));
        Edges.finds("one twice, another between", laid(Edges::busy, 2, 4, 3, NONE, 2, 4), UNLIKE, x -> x.ears(5));
        // as many PEOPLE as CUPS: of three, 3 .. 5 are none
        for (int v : new int[] {-1, 3, 5, 6}) {
            Edges.finds("no PERSON of three: " + v, laid(Edges::filled, 2, v), UNLIKE, x -> x.ears(5));
            Edges.finds("no CUP of three: " + v, laid(Edges::filled, v, 2), UNLIKE, x -> x.ears(5));
        }
    }

    private static void earsRefused() {
        Edges.sentence(34, "BAD; STATE: no CUPS; NOTHING; SIZE; UNLIKE");
        for (int r : NO_ROW) {
            Edges.refused("ears(" + r + ")", Edges::busy, BAD, x -> x.ears(r));
            Edges.refused("ears(" + r + "): BAD ahead of STATE", Edges::bare, BAD, x -> x.ears(r));
        }
        Edges.refused("STATE", Edges::bare, STATE, x -> x.ears(1));
        Edges.refused("STATE ahead of NOTHING", Edges::bare, STATE, x -> x.ears(5));
        Edges.refused("STATE ahead of SIZE", Edges::bare, STATE, x -> x.ears(3));
        Edges.refused("STATE ahead of UNLIKE", laid(Edges::bare, 9, 9), STATE, x -> x.ears(5));
        Edges.finds("NOTHING", Edges::busy, NOTHING, x -> x.ears(5));
    }

    private static void kinds() {
        Edges.sentence(35, "Of which KINDS (bits) a CUP can be, if it took so long (0 .. 99), the CUP ahead having its MILK (1), or "
            + "not (0), SECONDS as they are.");
        int[][] alone = {{1, 2, 3, 4, 5, 6, 7, 8, 9}, {1, 2, 3, 4, 5, 6, 7, 8, 9}, {1, 1, 1, 2, 3, 4, 5, 6, 7},
            {1, 2, 3, 4, 5, 6, 7, 8, 9}, {2, 4, 6, 8, 10, 12, 14, 16, 18}, {4, 4, 4, 5, 6, 7, 8, 9, 10}};
        int[][] behind = {alone[0], {1, 1, 1, 2, 2, 3, 3, 4, 4}, alone[2], alone[3], {2, 2, 2, 4, 4, 6, 6, 8, 8}, alone[5]};
        for (int seconds = 1; seconds <= 9; seconds++) {
            AnnCups x = Edges.bar("e0" + "cjtgfd".charAt(seconds % 6) + seconds + "000c1000");
            x.make(seconds % 2);
            for (int took = 0; took <= 99; took++) {
                int[] want = {0, 0};
                for (int kind = 0; kind <= 5; kind++) {
                    want[0] += alone[kind][seconds - 1] == took ? 1 << kind : 0;
                    want[1] += behind[kind][seconds - 1] == took ? 1 << kind : 0;
                }
                for (int milk = 0; milk <= 1; milk++) {
                    Edges.due(seconds + " in " + took + ", MILK " + milk, x.kinds(0, took, milk), want[milk]);
                }
            }
        }
    }

    private static void kindsRefused() {
        Edges.sentence(35, "SECONDS as they are. BAD.");
        cupsBad("kinds(.., 1, 0)", (x, i) -> x.kinds(i, 1, 0));
        for (int took : Edges.outside(0, 99)) {
            Edges.refused("kinds(0, " + took + ", 0)", Edges::busy, BAD, x -> x.kinds(0, took, 0));
        }
        for (int milk : Edges.outside(0, 1)) {
            Edges.refused("kinds(0, 1, " + milk + ")", Edges::busy, BAD, x -> x.kinds(0, 1, milk));
        }
        Edges.refused("a made one is not refused", Edges::busy, 11, x -> x.kinds(0, 4, 0));
    }

    private static void dueWag(AnnCups x, int none, int once, int twice) {
        int[] want = {none, once, twice};
        long before = x.digest();
        for (int n = 0; n <= 2; n++) {
            Edges.due("wag(" + n + ")", x.wag(n), want[n]);
        }
        Edges.due("nothing is done", x.digest(), before);
    }

    private static void wag() {
        Edges.sentence(36, "By turns the bar MAKES a CUP that is not made (none: nothing), then a wag lets two who are there and hold "
            + "something CHANGE, or nobody, n (0 .. 2) times");
        dueWag(Edges.bar("e0c1000"), 0, 0, 0);
        dueWag(Edges.make(Edges.bar("e0c1000"), 0), 0, 0, 0);
        dueWag(Edges.bar("e0c1001"), 0, 0, 0);
        dueWag(Edges.bar("e0c1000c1011"), 0, 0, 2);
        dueWag(Edges.make(Edges.bar("e0c1000c1011"), 0), 0, 2, 2);
        dueWag(Edges.make(Edges.bar("e0c1000c1011"), 0, 1), 0, 2, 2);
        // the bar wants few: it calls 1 for the own CUP first, then for that of 0
        dueWag(Edges.bar("e0c1005c1055"), 0, 0, 0);
        dueWag(Edges.make(Edges.bar("e0c1005c1055"), 0), 1, 1, 1);
        // who holds nothing is left alone: the one CUP can't be brought to another
        dueWag(Edges.make(Edges.bar("e0c1000c1018c1028"), 0, 1, 2), 0, 0, 0);
        // both are WRONG now: nobody is changed, or twice the same
        dueWag(Edges.make(Edges.bar("e0c1001c1010"), 0, 1), 2, 2, 2);
        // three of six, two more with each turn
        AnnCups x = Edges.make(Edges.bar("e0c1001c1010c1022c1033c1044c1055"), 0, 1, 2, 3, 4, 5);
        dueWag(x, 2, 4, 6);
        dueWag(Edges.make(Edges.bar("e0c1001c1012c1023c1034c1045c1050"), 0, 1, 2, 3, 4, 5), 6, 6, 6);
        // a GHOST's CUP goes to nobody, so the bar makes that one first
        dueWag(Edges.bar("e0c1000g1018c1022"), 0, 0, 0);
        Edges.due("forty DEEDS are no matter", Edges.filled().wag(2), 1);
    }

    private static void wagRefused() {
        Edges.sentence(36, "the bar wanting few, the wag many. BAD; STATE: no CUPS.");
        for (int n : Edges.outside(0, 2)) {
            Edges.refused("wag(" + n + ")", Edges::busy, BAD, x -> x.wag(n));
            Edges.refused("wag(" + n + "): BAD ahead of STATE", Edges::bare, BAD, x -> x.wag(n));
        }
        for (int n = 0; n <= 2; n++) {
            int times = n;
            Edges.refused("wag(" + n + ") without CUPS", Edges::bare, STATE, x -> x.wag(times));
        }
    }

    private static void odds() {
        Edges.sentence(37, "Chances that a CUP that is not made is taken by whose it is, CALLED now, if each other who is there and "
            + "has HAD nothing has gone by p (0 .. 12) of 12, each by itself: 1.");
        AnnCups x = Edges.bar("e9c1000c1000c1000c1000c1000c1000");
        long[] up = {0, 1, 1, 1, 1, 5, 1, 7, 2, 3, 5, 11, 1};
        long[] low = {1, 12, 6, 4, 3, 12, 2, 12, 3, 4, 6, 12, 1};
        for (int p = 0; p <= 12; p++) {
            long above = 1;
            long below = 1;
            for (int i = 0; i <= 5; i++) {
                Edges.duePart("odds(" + i + ", " + p + ")", x, x.odds(i, p), above, below);
                above *= up[p];
                below *= low[p];
            }
        }
    }

    private static void oddsOfOthers() {
        Edges.sentence(37, "if each other who is there and has HAD nothing has gone");
        AnnCups x = Edges.bar("e0c1000g1000c1010c1000c1000");
        Edges.duePart("one that is not there, one of another name", x, x.odds(3, 5), 5, 12);
        Edges.duePart("and one more", x, x.odds(4, 5), 25, 144);
        Edges.duePart("a GHOST's", x, x.odds(1, 12), 0, 1);
        x.make(0);
        Edges.duePart("one has HAD something", x, x.odds(4, 5), 5, 12);
        x.change(0, 4);
        Edges.duePart("whose it is has HAD something", x, x.odds(4, 12), 0, 1);
        Edges.duePart("nobody is ahead", x, x.odds(3, 0), 1, 1);
        AnnCups y = Edges.bar("e0c1001c1010");
        Edges.duePart("another name is WRITTEN", y, y.odds(0, 12), 0, 1);
        Edges.due("nothing is done", y.count(2), 0);
    }

    private static void oddsRefused() {
        Edges.sentence(37, "each by itself: 1. BAD; STATE: it is made.");
        cupsBad("odds(.., 0)", (x, i) -> x.odds(i, 0));
        for (int p : Edges.outside(0, 12)) {
            Edges.refused("odds(2, " + p + ")", Edges::busy, BAD, x -> x.odds(2, p));
            Edges.refused("odds(0, " + p + "): BAD ahead of STATE", Edges::busy, BAD, x -> x.odds(0, p));
        }
        Edges.refused("one that is held", Edges::busy, STATE, x -> x.odds(0, 0));
        Edges.refused("one that is THROWN", Edges::busy, STATE, x -> x.odds(4, 12));
        Edges.refused("one that STANDS", Edges::filled, STATE, x -> x.odds(0, 5));
        Edges.due("forty DEEDS are no matter", Edges.filled().odds(2, 5), 1);
    }

    private static void mid() {
        Edges.sentence(38, "The mean of how many are WRONG, if all CUPS that are not made are, by numbers, each who is there and has "
            + "HAD nothing having gone ahead of all by p of 12, each by itself: 1.");
        AnnCups x = Edges.bar("e9c1000c1000");
        for (int p = 0; p <= 12; p++) {
            // 1 takes CUP 0, if 0 went and 1 did not
            long above = p * (12 - p);
            long g = java.math.BigInteger.valueOf(above).gcd(java.math.BigInteger.valueOf(144)).longValue();
            Edges.duePart("mid(" + p + ") of two", x, x.mid(p), above / g, 144 / g);
        }
        x = Edges.bar("e0c1001c1012c1023c1034c1045c1050");
        for (int p = 0; p <= 12; p++) {
            // each of six is WRONG, if there
            long above = 6 * (12 - p);
            long g = java.math.BigInteger.valueOf(above).gcd(java.math.BigInteger.valueOf(12)).longValue();
            Edges.duePart("mid(" + p + ") of six", x, x.mid(p), above / g, 12 / g);
        }
        x = Edges.bar("e9g1000g1000");
        Edges.duePart("GHOSTS alone", x, x.mid(7), 0, 1);
        x = Edges.make(Edges.bar("e0c1001c1010"), 0, 1);
        for (int p = 0; p <= 12; p++) {
            Edges.duePart("all are made", x, x.mid(p), 2, 1);
        }
        x = Edges.make(Edges.bar("e0c1001c1010"), 0);
        Edges.duePart("one is WRONG now, one if there", x, x.mid(5), 19, 12);
        Edges.due("nothing is done", x.count(2), 1);
        // CUP 2 goes to nobody, as nobody is called so; who holds CUP 1 is WRONG
        x = Edges.filled();
        Edges.duePart("forty DEEDS are no matter", x, x.mid(5), 1, 1);
    }

    private static void midRefused() {
        Edges.sentence(38, "each by itself: 1. BAD; STATE: no CUPS.");
        for (int p : Edges.outside(0, 12)) {
            Edges.refused("mid(" + p + ")", Edges::busy, BAD, x -> x.mid(p));
            Edges.refused("mid(" + p + "): BAD ahead of STATE", Edges::bare, BAD, x -> x.mid(p));
        }
        for (int p = 0; p <= 12; p++) {
            int by = p;
            Edges.refused("mid(" + p + ") without CUPS", Edges::bare, STATE, x -> x.mid(by));
        }
    }

    private static void dueLots(String bar, int n, int seed, int wrong, int... places) {
        AnnCups x = Edges.bar(bar);
        String what = "lots(" + n + ", " + seed + ") of " + bar;
        Edges.due(what, x.lots(n, seed), Integer.bitCount(wrong));
        Edges.due(what + ", who is WRONG", x.wrong(), wrong);
        for (int i = 0; i < places.length; i++) {
            Edges.due(what + ", where CUP " + i + " is", Edges.of(x, i, 5), places[i]);
        }
        Edges.due(what + ", DEEDS", x.count(2), n);
    }

    private static void lots() {
        Edges.sentence(0, "a number comes from the one ahead by 48271 times it modulo 2147483647, the first from a seed (1 .. 2147483646).");
        dueLots("e0c1000", 1, 1, 0, 0);
        dueLots("e0c1000", 20, LAST_SEED, 0, 0);
        dueLots("e0c1000c1011", 1, 1, 0, NONE, 1);
        dueLots("e0c1000c1011", 1, LAST_SEED, 0, 0, NONE);
        dueLots("e0c1000c1011", 12, 1, 0, 0, 1);
        dueLots("e0c1000c1011", 12, 77, 3, 1, 0);
        Edges.sentence(39, "CUP it modulo how many there are is MADE, if it is not; THROWN, if it STANDS; else, if one holds it, that one "
            + "and PERSON it by 8, cut, modulo how many there are CHANGE, if that is another one who is there; else nothing "
            + "is done (a DEED, too): how many are WRONG then.");
        dueLots("e0c1009", 1, 1, 0, 6);
        dueLots("e0c1009", 2, 1, 0, 7);
        dueLots("e0c1009", 20, 1, 0, 7);
        dueLots("e0c1000g1011", 12, 1, 0, 0, 7);
        dueLots("e0c1000g1011", 12, LAST_SEED, 0, 0, 7);
        dueLots("e0c1000c1011c1022", 12, 1, 3, 1, 0, 2);
        dueLots("e0c1000c1011c1022", 12, LAST_SEED, 6, 1, 2, 7);
        dueLots("e0c1000c1011c1022", 12, 77, 2, 0, 7, 1);
        dueLots("e0c1000c1018g1022c1033", 12, 1, 2, NONE, 7, 7, 1);
        dueLots("e0c1000c1018g1022c1033", 12, LAST_SEED, 8, 3, 7, 7, NONE);
        dueLots("e0c1000c1018g1022c1033", 12, 77, 2, 1, 7, 6, 3);
    }

    private static void lotsOfDeeds() {
        Edges.sentence(39, "n (1 .. 20) DEEDS truly by LOTS of a seed");
        AnnCups x = Edges.bar("e0c1000c1018g1022c1033");
        long[] then = new long[13];
        then[0] = x.digest();
        for (int n = 1; n <= 12; n++) {
            AnnCups y = Edges.bar("e0c1000c1018g1022c1033");
            y.lots(n, 77);
            then[n] = y.digest();
        }
        x.lots(12, 77);
        for (int n = 12; n >= 0; n--) {
            Edges.due("undo(" + n + ")", x.undo(n), n == 12 ? 0 : 1);
            Edges.due("as if there were so many", x.digest(), then[n]);
        }
        x = Edges.bar("e0c1009");
        Edges.due("twenty", x.lots(20, 5), 0);
        Edges.due("twenty more", x.lots(20, LAST_SEED), 0);
        Edges.due("DEEDS", x.count(2), 40);
    }

    private static AnnCups deeds(int many) {
        AnnCups x = Edges.filled();
        x.undo(many);
        return x;
    }

    private static void lotsRefused() {
        Edges.sentence(39, "BAD; STATE: no CUPS; FULL: with n more there would be more than 40 DEEDS. (FULL last.)");
        for (int n : Edges.outside(1, 20)) {
            Edges.refused("lots(" + n + ", 1)", Edges::busy, BAD, x -> x.lots(n, 1));
            Edges.refused("lots(" + n + ", 1): BAD ahead of STATE", Edges::bare, BAD, x -> x.lots(n, 1));
            Edges.refused("lots(" + n + ", 1): BAD ahead of FULL", Edges::filled, BAD, x -> x.lots(n, 1));
        }
        for (int seed : new int[] {0, -1, -48271, LEAST, LEAST + 1, MOST}) {
            Edges.refused("lots(1, " + seed + ")", Edges::busy, BAD, x -> x.lots(1, seed));
            Edges.refused("lots(1, " + seed + "): BAD ahead of STATE", Edges::bare, BAD, x -> x.lots(1, seed));
            Edges.refused("lots(1, " + seed + "): BAD ahead of FULL", Edges::filled, BAD, x -> x.lots(1, seed));
        }
        Edges.refused("without CUPS", Edges::bare, STATE, x -> x.lots(1, 1));
        Edges.refused("without CUPS", Edges::bare, STATE, x -> x.lots(20, LAST_SEED));
        for (int n = 1; n <= 20; n++) {
            int many = n;
            Edges.refused("lots(" + n + ", 1) and 40", Edges::filled, FULL, x -> x.lots(many, 1));
            Edges.refused("lots(" + n + ", 1), one too many", () -> deeds(41 - many), FULL, x -> x.lots(many, 1));
            AnnCups x = deeds(40 - n);
            Edges.due("lots(" + n + ", 1), just so many", x.lots(n, 1) >= 0 ? 1 : 0, 1);
            Edges.due("DEEDS", x.count(2), 40);
        }
    }
}
