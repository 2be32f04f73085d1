import java.util.Arrays;

/**
 * Names on cups: a bar that makes, calls and mistakes cups, and what can be told of it.
 * The document DOC.md says what each public call answers; README.md says how to use it.
 */
public final class AnnCups {
    public static final int BAD = -1, FULL = -2, FINDING = -3, STATE = -4, SPENT = -6, NONE = -9;

    private static final int NOTHING = 1, BEYOND = 2, UNLIKE = 3, NOUGHT = 4, SIZE = 5;
    private static final int MISSING = -1;

    private static final int ROWS = 6, PLACES = 40, TEXTS = 4, BYTES = 60, KEPT = 3;
    private static final int MOST_CUPS = 6, MOST_DEEDS = 40, MOST_LOTS = 20, MOST_TURNS = 2;
    private static final int LAST_NAME = 9, LAST_TIME = 99, TWELVE = 12, TOLD_OF_A_BAR = 12, TOLD_OF_A_CUP = 6;

    private static final int CUP = 0, JUG = 1, TEA = 2, GHOST = 3, FOAM = 4, DECAF = 5;
    private static final char[] LETTERS = {'c', 'j', 't', 'g', 'f', 'd'};
    private static final char BLANK = ' ', EARS_LETTER = 'e';
    private static final int SIGNS_OF_A_CUP = 5;

    private static final int STANDS = 6, THROWN = 7;
    private static final int IDLED = 0, MADE = 1, CHANGED = 2, TOSSED = 3;
    private static final int LEAST_SUM = 0, LEAST_LATEST = 1, FEWEST_WRONG = 2;
    /** Far above every sum of TIMES: six CUPS, each made once and 18 at most, are done by 108. */
    private static final int NO_CEILING = 1000000;

    private static final long LOTS_TIMES = 48271L, LOTS_MODULUS = 2147483647L;

    private final Row[] rows = new Row[ROWS];
    private final Text[] texts = new Text[TEXTS];
    private final Cups cups = new Cups();
    /** What a TEXT says goes here first, so that a FAULT leaves the BAR as it is. */
    private final Cups draft = new Cups();
    private final Counter now = new Counter(cups);
    /** What is only thought of happens here, so that what truly is stays as it is. */
    private final Counter trial = new Counter(cups);
    private final Search search = new Search(cups);
    private final Deeds deeds = new Deeds();
    private final Deeds[] kept = new Deeds[KEPT];
    private final int[] foundTimes = new int[SIZE + 1];
    private int latestFinding;
    private int told;
    private long upperTold;
    private long lowerTold = 1;

    public AnnCups() {
        for (int r = 0; r < ROWS; r++) {
            rows[r] = new Row();
        }
        for (int t = 0; t < TEXTS; t++) {
            texts[t] = new Text();
        }
        for (int k = 0; k < KEPT; k++) {
            kept[k] = new Deeds();
            kept[k].size = MISSING;
        }
    }

    // ---- 1 rows, texts, bars

    public int row(int r, int n) {
        Row row = rowOf(r);
        if (row == null || n > PLACES) {
            return BAD;
        }
        if (n < 0) {
            return found(SIZE);
        }
        row.layAnew(n);
        return n;
    }

    public int lay(int r, int i, int v) {
        Row row = rowOf(r);
        if (row == null) {
            return BAD;
        }
        if (row.size < 0) {
            return found(NOTHING);
        }
        if (!row.hasPlace(i)) {
            return found(BEYOND);
        }
        told = row.places[i];
        row.places[i] = v;
        return 1;
    }

    public int at(int r, int i) {
        Row row = rowOf(r);
        if (row == null) {
            return BAD;
        }
        if (row.size < 0) {
            return found(NOTHING);
        }
        if (!row.hasPlace(i)) {
            return found(BEYOND);
        }
        told = row.places[i];
        return 1;
    }

    public int tear(int r) {
        Row row = rowOf(r);
        if (row == null) {
            return BAD;
        }
        if (row.size < 0) {
            return found(NOTHING);
        }
        row.size = MISSING;
        return 1;
    }

    public int copy(int r, int i, int to, int j, int n) {
        Row from = rowOf(r);
        Row into = rowOf(to);
        if (from == null || into == null) {
            return BAD;
        }
        if (n < 0) {
            return found(SIZE);
        }
        if (from.size < 0 || into.size < 0) {
            return found(NOTHING);
        }
        if (!from.hasPlaces(i, n) || !into.hasPlaces(j, n)) {
            return found(BEYOND);
        }
        System.arraycopy(from.places, i, into.places, j, n);
        return 1;
    }

    public int mean(int r) {
        Row row = rowOf(r);
        if (row == null) {
            return BAD;
        }
        if (row.size < 0) {
            return found(NOTHING);
        }
        if (row.size == 0) {
            return found(NOUGHT);
        }
        // forty ints can add up to more than an int holds, their mean can't
        long sum = 0;
        for (int i = 0; i < row.size; i++) {
            sum += row.places[i];
        }
        told = (int) (sum / row.size);
        return 1;
    }

    public int text(int t, int n) {
        Text text = textOf(t);
        if (text == null || n > BYTES) {
            return BAD;
        }
        if (n < 0) {
            return found(SIZE);
        }
        text.size = n;
        Arrays.fill(text.bytes, (byte) BLANK);
        return n;
    }

    public int put(int t, int i, int v) {
        Text text = textOf(t);
        if (text == null) {
            return BAD;
        }
        if (text.size < 0) {
            return found(NOTHING);
        }
        if (!text.hasByte(i)) {
            return found(BEYOND);
        }
        int before = text.bytes[i];
        text.bytes[i] = (byte) v;
        return before + 1000;
    }

    public int fault(int t) {
        Text text = textOf(t);
        if (text == null) {
            return BAD;
        }
        if (text.size < 0) {
            return found(NOTHING);
        }
        return readBar(text, draft);
    }

    public int bar(int t) {
        Text text = textOf(t);
        if (text == null) {
            return BAD;
        }
        if (text.size < 0) {
            return found(NOTHING);
        }
        if (readBar(text, draft) != NONE) {
            return STATE;
        }
        cups.become(draft);
        now.openAnew();
        deeds.size = 0;
        for (int k = 0; k < KEPT; k++) {
            kept[k].size = MISSING;
        }
        return cups.size;
    }

    public int cup(int i, int what) {
        if (!cups.has(i) || what < 0 || what >= TOLD_OF_A_CUP) {
            return BAD;
        }
        told = ofCup(i, what);
        return 1;
    }

    public int mark(int i, int kind) {
        if (!cups.has(i) || kind < JUG || kind > DECAF) {
            return BAD;
        }
        if (!isOf(cups.kind[i], kind)) {
            return found(UNLIKE);
        }
        switch (kind) {
            case JUG: return othersOfItsMilk(i);
            case TEA: return othersThatTakeLonger(i);
            case GHOST: return Integer.bitCount(cups.heard[i]);
            case FOAM: return cups.timeBehindMilk[i];
            default: return teaTime(cups.seconds[i]);
        }
    }

    public int holds(int p) {
        return cups.has(p) ? now.hand[p] : BAD;
    }

    // ---- 2 deeds

    public int make(int i) {
        if (!cups.has(i)) {
            return BAD;
        }
        if (now.isMade(i)) {
            return STATE;
        }
        if (deeds.size >= MOST_DEEDS) {
            return FULL;
        }
        perform(MADE, i, 0);
        return cups.has(now.place[i]) ? now.place[i] : NONE;
    }

    public int change(int p, int q) {
        if (!cups.has(p) || !cups.has(q) || p == q || !cups.isThere(p) || !cups.isThere(q)) {
            return BAD;
        }
        if (now.hand[p] == NONE && now.hand[q] == NONE) {
            return STATE;
        }
        if (deeds.size >= MOST_DEEDS) {
            return FULL;
        }
        perform(CHANGED, p, q);
        return now.howManyWrong();
    }

    public int toss(int i) {
        if (!cups.has(i)) {
            return BAD;
        }
        if (now.place[i] != STANDS) {
            return STATE;
        }
        if (deeds.size >= MOST_DEEDS) {
            return FULL;
        }
        perform(TOSSED, i, 0);
        return Integer.bitCount(now.standing());
    }

    public int undo(int n) {
        if (n < 0 || n > deeds.size) {
            return BAD;
        }
        int undone = deeds.size - n;
        deeds.size = n;
        now.replay(deeds);
        return undone;
    }

    public int keep(int k) {
        Deeds place = keptAt(k);
        if (place == null) {
            return BAD;
        }
        if (cups.size == 0) {
            return STATE;
        }
        place.become(deeds);
        return place.size;
    }

    public int on(int k) {
        Deeds place = keptAt(k);
        if (place == null) {
            return BAD;
        }
        if (place.size < 0) {
            return found(NOTHING);
        }
        deeds.become(place);
        now.replay(deeds);
        return deeds.size;
    }

    // ---- 3 in which order

    public int least(int r) {
        return bestOrder(r, LEAST_SUM);
    }

    public int latest(int r) {
        return bestOrder(r, LEAST_LATEST);
    }

    public int fewest(int r) {
        return bestOrder(r, FEWEST_WRONG);
    }

    public int orders(int n) {
        if (n < 0 || n > MOST_CUPS) {
            return BAD;
        }
        if (cups.size == 0) {
            return STATE;
        }
        tellParts(search.howManyWith(now, n), 1);
        return 1;
    }

    public int makes(int r) {
        Row row = rowOf(r);
        if (row == null) {
            return BAD;
        }
        if (cups.size == 0) {
            return STATE;
        }
        if (row.size < 0) {
            return found(NOTHING);
        }
        if (row.size > MOST_CUPS) {
            return found(SIZE);
        }
        for (int k = 0; k < row.size; k++) {
            if (!cups.has(row.places[k])) {
                return found(UNLIKE);
            }
        }
        trial.become(now);
        for (int k = 0; k < row.size && !trial.isMade(row.places[k]); k++) {
            trial.serve(row.places[k]);
        }
        told = trial.howManyWrong();
        return trial.time;
    }

    public int done(int time, int r) {
        Row row = rowOf(r);
        if (row == null || time < 0 || time > LAST_TIME) {
            return BAD;
        }
        if (cups.size == 0) {
            return STATE;
        }
        if (now.time > time) {
            return SPENT;
        }
        search.findMost(now, time);
        search.layBest(row);
        return search.bestSize;
    }

    // ---- 4 rings

    public int wrong() {
        return now.wrongOnes();
    }

    public int mends() {
        int rings = 0;
        for (int p = 0; p < cups.size; p++) {
            int owner = now.hand[p];
            if (cups.has(owner) && !cups.isThere(owner)) {
                return NONE;
            }
            if (owner != p && leadsRing(p)) {
                rings++;
            }
        }
        // a line needs a change for each who is wrong in it, a ring one less
        return now.howManyWrong() - rings;
    }

    public int runs(int i) {
        if (!cups.has(i)) {
            return BAD;
        }
        int holder = now.place[i];
        int people = 0;
        told = NONE;
        if (cups.has(holder) && holder != i) {
            int person = i;
            while (people < MOST_CUPS && cups.has(person) && person != holder) {
                people++;
                told = person;
                person = now.hand[person];
            }
        }
        return people;
    }

    // ---- 5 names

    public int whose(int i) {
        return cups.has(i) ? cups.heard[i] : BAD;
    }

    public int alike() {
        int pairs = 0;
        told = NONE;
        for (int p = 0; p < cups.size; p++) {
            for (int q = p + 1; q < cups.size; q++) {
                if (cups.isThere(p) && cups.isThere(q) && areAlike(cups.name[p], cups.name[q], cups.hearing)) {
                    told = pairs == 0 ? MOST_CUPS * p + q : told;
                    pairs++;
                }
            }
        }
        return pairs;
    }

    public int give() {
        if (cups.size == 0) {
            return STATE;
        }
        int best = 0;
        int few = MOST_CUPS + 1;
        for (int name = 0; name <= LAST_NAME; name++) {
            int many = Integer.bitCount(cups.whoHears(name, cups.hearing));
            if (many < few) {
                few = many;
                best = name;
            }
        }
        told = few;
        return best;
    }

    public int reach(int i) {
        return cups.has(i) ? cups.taker(i, now.had) : BAD;
    }

    // ---- 6 from who held what

    public int ears(int r) {
        Row row = rowOf(r);
        if (row == null) {
            return BAD;
        }
        if (cups.size == 0) {
            return STATE;
        }
        if (row.size < 0) {
            return found(NOTHING);
        }
        if (row.size > 2 * MOST_CUPS || row.size % 2 != 0) {
            return found(SIZE);
        }
        if (!tellsWhoTookWhat(row)) {
            return found(UNLIKE);
        }
        int set = 0;
        for (int hearing = 0; hearing <= LAST_NAME; hearing++) {
            if (wouldTakeSo(row, hearing)) {
                set |= 1 << hearing;
            }
        }
        return set;
    }

    public int kinds(int i, int took, int milk) {
        if (!cups.has(i) || took < 0 || took > LAST_TIME || milk < 0 || milk > 1) {
            return BAD;
        }
        int set = 0;
        for (int kind = CUP; kind <= DECAF; kind++) {
            if (timeOf(kind, cups.seconds[i], milk == 1) == took) {
                set |= 1 << kind;
            }
        }
        return set;
    }

    // ---- 7 by turns

    public int wag(int n) {
        if (n < 0 || n > MOST_TURNS) {
            return BAD;
        }
        if (cups.size == 0) {
            return STATE;
        }
        trial.become(now);
        return barTurn(trial, n);
    }

    // ---- 8 chances, lots

    public int odds(int i, int p) {
        if (!cups.has(i) || p < 0 || p > TWELVE) {
            return BAD;
        }
        if (now.isMade(i)) {
            return STATE;
        }
        int takers = cups.heard[i] & ~now.had;
        if ((takers & 1 << i) == 0) {
            tellParts(0, 1);
            return 1;
        }
        int ahead = Integer.bitCount(takers & ((1 << i) - 1));
        tellParts(power(p, ahead), power(TWELVE, ahead));
        return 1;
    }

    public int mid(int p) {
        if (p < 0 || p > TWELVE) {
            return BAD;
        }
        if (cups.size == 0) {
            return STATE;
        }
        int waiting = cups.there & ~now.had;
        int many = Integer.bitCount(waiting);
        long sum = 0;
        for (int gone = 0; gone < 1 << MOST_CUPS; gone++) {
            if ((gone & ~waiting) == 0) {
                int left = Integer.bitCount(gone);
                sum += power(p, left) * power(TWELVE - p, many - left) * wrongWithout(gone);
            }
        }
        tellParts(sum, power(TWELVE, many));
        return 1;
    }

    public int lots(int n, int seed) {
        if (n < 1 || n > MOST_LOTS || seed < 1 || seed >= LOTS_MODULUS) {
            return BAD;
        }
        if (cups.size == 0) {
            return STATE;
        }
        if (deeds.size + n > MOST_DEEDS) {
            return FULL;
        }
        long number = seed;
        for (int k = 0; k < n; k++) {
            number = number * LOTS_TIMES % LOTS_MODULUS;
            performLot((int) (number % cups.size), (int) (number / 8 % cups.size));
        }
        return now.howManyWrong();
    }

    // ---- 9 what is told

    public int asked() {
        return told;
    }

    public long upper() {
        return upperTold;
    }

    public long lower() {
        return lowerTold;
    }

    public int count(int what) {
        return ofBar(what);
    }

    public int finding() {
        return latestFinding;
    }

    public int findings(int f) {
        return f < NOTHING || f > SIZE ? BAD : foundTimes[f];
    }

    public long digest() {
        long h = 17;
        for (int what = 0; what < TOLD_OF_A_BAR; what++) {
            h = 31 * h + ofBar(what);
        }
        for (int i = 0; i < cups.size; i++) {
            for (int what = 0; what < TOLD_OF_A_CUP; what++) {
                h = 31 * h + ofCup(i, what);
            }
        }
        for (int p = 0; p < cups.size; p++) {
            h = 31 * h + now.hand[p];
        }
        for (int k = 0; k < KEPT; k++) {
            h = 31 * h + kept[k].size;
        }
        for (int r = 0; r < ROWS; r++) {
            h = rows[r].mixedInto(h);
        }
        for (int t = 0; t < TEXTS; t++) {
            h = texts[t].mixedInto(h);
        }
        return h;
    }

    // ---- what the calls share

    private int found(int finding) {
        latestFinding = finding;
        foundTimes[finding]++;
        return FINDING;
    }

    private Row rowOf(int r) {
        return r < 0 || r >= ROWS ? null : rows[r];
    }

    private Text textOf(int t) {
        return t < 0 || t >= TEXTS ? null : texts[t];
    }

    private Deeds keptAt(int k) {
        return k < 0 || k >= KEPT ? null : kept[k];
    }

    /** Told in lowest terms; the lower part is above 0 wherever this is called. */
    private void tellParts(long up, long low) {
        long common = commonDivisor(up, low);
        if (common > 0) {
            upperTold = up / common;
            lowerTold = low / common;
        }
    }

    private static long commonDivisor(long a, long b) {
        // a million is far above the some forty steps that such numbers need
        for (int step = 0; step < 1000000 && b != 0; step++) {
            long rest = a % b;
            a = b;
            b = rest;
        }
        return a;
    }

    private static long power(int base, int times) {
        long product = 1;
        for (int k = 0; k < times; k++) {
            product *= base;
        }
        return product;
    }

    private static boolean areAlike(int name, int other, int hearing) {
        return Math.abs(name - other) <= hearing;
    }

    /** The least number in a set, NONE if it is empty. */
    private static int firstOf(int set) {
        return set == 0 ? NONE : Integer.bitCount((set & -set) - 1);
    }

    /** The set of one number alone, or of none. */
    private static int setOf(int number) {
        return number == NONE ? 0 : 1 << number;
    }

    private static boolean isOf(int kind, int wanted) {
        switch (wanted) {
            case CUP: return true;
            case JUG: return kind == JUG || kind == FOAM;
            case TEA: return kind == TEA || kind == DECAF;
            default: return kind == wanted;
        }
    }

    private static int timeOf(int kind, int seconds, boolean milkAhead) {
        switch (kind) {
            case JUG: return jugTime(seconds, milkAhead);
            case FOAM: return 2 * jugTime(seconds, milkAhead);
            case TEA: return teaTime(seconds);
            case DECAF: return teaTime(seconds) + 3;
            default: return seconds;
        }
    }

    private static int jugTime(int seconds, boolean milkAhead) {
        return milkAhead ? Math.max(1, seconds / 2) : seconds;
    }

    private static int teaTime(int seconds) {
        return Math.max(1, seconds - 2);
    }

    // ---- a BAR's small language

    /** The FAULT of a TEXT (NONE: there is none): the end is a sign that fits nowhere, so its place needs no care. */
    private static int readBar(Text text, Cups into) {
        into.size = 0;
        int at = afterBlanks(text, 0);
        if (text.signAt(at) != EARS_LETTER) {
            return at;
        }
        at++;
        into.hearing = text.figureAt(at, 0, 9);
        if (into.hearing < 0) {
            return at;
        }
        at++;
        for (int i = 0; i < MOST_CUPS; i++) {
            at = afterBlanks(text, at);
            if (i > 0 && at >= text.size) {
                break;
            }
            int fit = readCup(text, at, into, i);
            at += fit;
            if (fit < SIGNS_OF_A_CUP) {
                return at;
            }
            into.size = i + 1;
        }
        at = afterBlanks(text, at);
        return at < text.size ? at : NONE;
    }

    private static int afterBlanks(Text text, int at) {
        while (at < text.size && text.signAt(at) == BLANK) {
            at++;
        }
        return at;
    }

    /** How many signs of the CUP i are as they should be, from a place on. */
    private static int readCup(Text text, int at, Cups into, int i) {
        int kind = text.kindAt(at);
        if (kind < 0) {
            return 0;
        }
        int seconds = text.figureAt(at + 1, 1, 9);
        if (seconds < 0) {
            return 1;
        }
        int milk = text.figureAt(at + 2, 0, 3);
        if (milk < 0) {
            return 2;
        }
        int name = text.figureAt(at + 3, 0, LAST_NAME);
        if (name < 0) {
            return 3;
        }
        int written = text.figureAt(at + 4, 0, LAST_NAME);
        if (written < 0) {
            return 4;
        }
        into.kind[i] = kind;
        into.seconds[i] = seconds;
        into.milk[i] = milk;
        into.name[i] = name;
        into.written[i] = written;
        return SIGNS_OF_A_CUP;
    }

    // ---- of the BAR as it is

    private int ofCup(int i, int what) {
        switch (what) {
            case 0: return cups.kind[i];
            case 1: return cups.timeBehind(i, now.last);
            case 2: return cups.milk[i];
            case 3: return cups.name[i];
            case 4: return cups.written[i];
            default: return now.place[i];
        }
    }

    private int ofBar(int what) {
        switch (what) {
            case 0: return cups.size;
            case 1: return now.time;
            case 2: return deeds.size;
            case 3: return now.made;
            case 4: return now.standing();
            case 5: return cups.hearing;
            case 6: return cups.howManyOf(JUG);
            case 7: return cups.howManyOf(TEA);
            case 8: return now.had;
            case 9: return rowsThere();
            case 10: return textsThere();
            case 11: return barsKept();
            default: return BAD;
        }
    }

    private int rowsThere() {
        int many = 0;
        for (int r = 0; r < ROWS; r++) {
            many += rows[r].size < 0 ? 0 : 1;
        }
        return many;
    }

    private int textsThere() {
        int many = 0;
        for (int t = 0; t < TEXTS; t++) {
            many += texts[t].size < 0 ? 0 : 1;
        }
        return many;
    }

    private int barsKept() {
        int many = 0;
        for (int k = 0; k < KEPT; k++) {
            many += kept[k].size < 0 ? 0 : 1;
        }
        return many;
    }

    private int othersOfItsMilk(int i) {
        int many = 0;
        for (int j = 0; j < cups.size; j++) {
            many += j != i && !now.isMade(j) && cups.milk[j] == cups.milk[i] ? 1 : 0;
        }
        return many;
    }

    private int othersThatTakeLonger(int i) {
        int own = cups.timeBehind(i, now.last);
        int many = 0;
        for (int j = 0; j < cups.size; j++) {
            many += j != i && !now.isMade(j) && cups.timeBehind(j, now.last) > own ? 1 : 0;
        }
        return many;
    }

    // ---- deeds

    private void perform(int deed, int one, int other) {
        deeds.add(deed, one, other);
        now.happen(deed, one, other);
    }

    private void performLot(int i, int other) {
        int place = now.place[i];
        if (place == NONE) {
            perform(MADE, i, 0);
        } else if (place == STANDS) {
            perform(TOSSED, i, 0);
        } else if (cups.has(place) && place != other && cups.isThere(other)) {
            perform(CHANGED, place, other);
        } else {
            perform(IDLED, 0, 0);
        }
    }

    // ---- orders, rings, ears, turns, chances

    private int bestOrder(int r, int goal) {
        Row row = rowOf(r);
        if (row == null) {
            return BAD;
        }
        if (cups.size == 0) {
            return STATE;
        }
        search.findBest(now, goal);
        search.layBest(row);
        return search.bestValue;
    }

    /** Whether who holds whose comes round to a PERSON who has the least number of all in that ring. */
    private boolean leadsRing(int p) {
        int person = p;
        for (int step = 0; step < MOST_CUPS; step++) {
            person = now.hand[person];
            if (!cups.has(person) || person < p) {
                return false;
            }
            if (person == p) {
                return true;
            }
        }
        return false;
    }

    private boolean tellsWhoTookWhat(Row row) {
        int met = now.made;
        for (int k = 0; k + 1 < row.size; k += 2) {
            int i = row.places[k];
            int who = row.places[k + 1];
            if (!cups.has(i) || (met & 1 << i) != 0 || !cups.has(who) && who != NONE) {
                return false;
            }
            met |= 1 << i;
        }
        return true;
    }

    private boolean wouldTakeSo(Row row, int hearing) {
        int had = now.had;
        for (int k = 0; k + 1 < row.size; k += 2) {
            int i = row.places[k];
            if (!cups.has(i)) {
                return false;
            }
            int who = firstOf(cups.whoHears(cups.written[i], hearing) & ~had);
            if (who != row.places[k + 1]) {
                return false;
            }
            had |= setOf(who);
        }
        return true;
    }

    private static int barTurn(Counter counter, int turns) {
        if (turns <= 0) {
            return counter.howManyWrong();
        }
        if (counter.made == counter.cups.everyOne()) {
            return wagTurn(counter, turns);
        }
        int few = MOST_CUPS + 1;
        for (int i = 0; i < counter.cups.size; i++) {
            if (!counter.isMade(i)) {
                int time = counter.time;
                int last = counter.last;
                int had = counter.had;
                counter.serve(i);
                few = Math.min(few, wagTurn(counter, turns));
                counter.unserve(i, time, last, had);
            }
        }
        return few;
    }

    private static int wagTurn(Counter counter, int turns) {
        int many = barTurn(counter, turns - 1);
        for (int p = 0; p < counter.cups.size; p++) {
            for (int q = p + 1; q < counter.cups.size; q++) {
                if (counter.hand[p] != NONE && counter.hand[q] != NONE) {
                    counter.swap(p, q);
                    many = Math.max(many, barTurn(counter, turns - 1));
                    counter.swap(p, q);
                }
            }
        }
        return many;
    }

    private int wrongWithout(int gone) {
        // who went takes as little as who has had something
        int had = now.had | gone;
        int many = now.howManyWrong();
        for (int i = 0; i < cups.size; i++) {
            if (!now.isMade(i)) {
                int who = cups.taker(i, had);
                had |= setOf(who);
                many += who != NONE && who != i ? 1 : 0;
            }
        }
        return many;
    }

    /** A ROW of ints, with room for the longest, so that none is made later. */
    private static final class Row {
        int size = MISSING;
        final int[] places = new int[PLACES];

        void layAnew(int n) {
            size = n;
            Arrays.fill(places, 0);
        }

        boolean hasPlace(int i) {
            return i >= 0 && i < size;
        }

        boolean hasPlaces(int i, int n) {
            return i >= 0 && i <= size && n <= size - i;
        }

        long mixedInto(long h) {
            long mixed = 31 * h + size;
            for (int i = 0; i < size; i++) {
                mixed = 31 * mixed + places[i];
            }
            return mixed;
        }
    }

    /** A TEXT of bytes, with room for the longest, so that none is made later. */
    private static final class Text {
        int size = MISSING;
        final byte[] bytes = new byte[BYTES];

        boolean hasByte(int i) {
            return i >= 0 && i < size;
        }

        /** The sign at a place; at the end one that fits nowhere. */
        int signAt(int i) {
            return hasByte(i) ? bytes[i] : -1;
        }

        int figureAt(int i, int low, int high) {
            int figure = signAt(i) - '0';
            return figure < low || figure > high ? -1 : figure;
        }

        int kindAt(int i) {
            int sign = signAt(i);
            for (int kind = CUP; kind <= DECAF; kind++) {
                if (LETTERS[kind] == sign) {
                    return kind;
                }
            }
            return -1;
        }

        long mixedInto(long h) {
            long mixed = 31 * h + size;
            for (int i = 0; i < size; i++) {
                mixed = 31 * mixed + bytes[i];
            }
            return mixed;
        }
    }

    /** The CUPS of a BAR and the PEOPLE who wait for them, as a TEXT says; no deed changes them. */
    private static final class Cups {
        int size;
        int hearing;
        /** PEOPLE (bits) who are there. */
        int there;
        final int[] kind = new int[MOST_CUPS];
        final int[] seconds = new int[MOST_CUPS];
        final int[] milk = new int[MOST_CUPS];
        final int[] name = new int[MOST_CUPS];
        final int[] written = new int[MOST_CUPS];
        // heard (PEOPLE there whose NAME is ALIKE the one WRITTEN) and both times follow from what was read;
        // they are kept, since each of the many orders that are tried asks for them
        final int[] heard = new int[MOST_CUPS];
        final int[] timeAlone = new int[MOST_CUPS];
        final int[] timeBehindMilk = new int[MOST_CUPS];

        boolean has(int i) {
            return i >= 0 && i < size;
        }

        boolean isThere(int p) {
            return (there & 1 << p) != 0;
        }

        /** All CUPS (bits); as many PEOPLE. */
        int everyOne() {
            return (1 << size) - 1;
        }

        int timeBehind(int i, int ahead) {
            boolean milkAhead = has(ahead) && milk[ahead] == milk[i];
            return milkAhead ? timeBehindMilk[i] : timeAlone[i];
        }

        /** Who takes a CUP that is CALLED, if these (bits) have HAD something. */
        int taker(int i, int had) {
            return firstOf(heard[i] & ~had);
        }

        int whoHears(int called, int ears) {
            int set = 0;
            for (int p = 0; p < size; p++) {
                if (isThere(p) && areAlike(name[p], called, ears)) {
                    set |= 1 << p;
                }
            }
            return set;
        }

        int howManyOf(int wanted) {
            int many = 0;
            for (int i = 0; i < size; i++) {
                many += isOf(kind[i], wanted) ? 1 : 0;
            }
            return many;
        }

        void settle() {
            there = 0;
            for (int p = 0; p < size; p++) {
                there |= kind[p] == GHOST ? 0 : 1 << p;
            }
            for (int i = 0; i < size; i++) {
                heard[i] = whoHears(written[i], hearing);
                timeAlone[i] = timeOf(kind[i], seconds[i], false);
                timeBehindMilk[i] = timeOf(kind[i], seconds[i], true);
            }
        }

        void become(Cups other) {
            size = other.size;
            hearing = other.hearing;
            for (int i = 0; i < MOST_CUPS; i++) {
                kind[i] = other.kind[i];
                seconds[i] = other.seconds[i];
                milk[i] = other.milk[i];
                name[i] = other.name[i];
                written[i] = other.written[i];
            }
            settle();
        }
    }

    /** What became of the CUPS: when, where they are, who holds what. */
    private static final class Counter {
        final Cups cups;
        int time;
        /** The CUP made last, NONE if none is. */
        int last;
        /** CUPS (bits) that are made. */
        int made;
        /** PEOPLE (bits) who have HAD something. */
        int had;
        final int[] place = new int[MOST_CUPS];
        final int[] hand = new int[MOST_CUPS];

        Counter(Cups cups) {
            this.cups = cups;
            openAnew();
        }

        void openAnew() {
            time = 0;
            last = NONE;
            made = 0;
            had = 0;
            Arrays.fill(place, NONE);
            Arrays.fill(hand, NONE);
        }

        void become(Counter other) {
            time = other.time;
            last = other.last;
            made = other.made;
            had = other.had;
            for (int i = 0; i < MOST_CUPS; i++) {
                place[i] = other.place[i];
                hand[i] = other.hand[i];
            }
        }

        boolean isMade(int i) {
            return (made & 1 << i) != 0;
        }

        void serve(int i) {
            int who = cups.taker(i, had);
            time += cups.timeBehind(i, last);
            last = i;
            made |= 1 << i;
            if (cups.has(who)) {
                place[i] = who;
                hand[who] = i;
                had |= 1 << who;
            } else {
                place[i] = STANDS;
            }
        }

        /** Takes back the latest serve(i), by what was so ahead of it. */
        void unserve(int i, int timeBefore, int lastBefore, int hadBefore) {
            int who = place[i];
            if (cups.has(who)) {
                hand[who] = NONE;
            }
            place[i] = NONE;
            made &= ~(1 << i);
            time = timeBefore;
            last = lastBefore;
            had = hadBefore;
        }

        void swap(int p, int q) {
            int first = hand[p];
            int second = hand[q];
            receive(p, second);
            receive(q, first);
        }

        private void receive(int p, int i) {
            hand[p] = i;
            if (cups.has(i)) {
                place[i] = p;
                had |= 1 << p;
            }
        }

        void happen(int deed, int one, int other) {
            if (deed == MADE) {
                serve(one);
            } else if (deed == CHANGED) {
                swap(one, other);
            } else if (deed == TOSSED) {
                place[one] = THROWN;
            }
        }

        void replay(Deeds deeds) {
            openAnew();
            for (int k = 0; k < deeds.size; k++) {
                happen(deeds.deed[k], deeds.one[k], deeds.other[k]);
            }
        }

        int standing() {
            int set = 0;
            for (int i = 0; i < cups.size; i++) {
                set |= place[i] == STANDS ? 1 << i : 0;
            }
            return set;
        }

        int wrongOnes() {
            int set = 0;
            for (int p = 0; p < cups.size; p++) {
                set |= hand[p] != NONE && hand[p] != p ? 1 << p : 0;
            }
            return set;
        }

        int howManyWrong() {
            return Integer.bitCount(wrongOnes());
        }
    }

    /** DEEDS as they came: with the CUPS they say all of a BAR. */
    private static final class Deeds {
        int size;
        final int[] deed = new int[MOST_DEEDS];
        final int[] one = new int[MOST_DEEDS];
        final int[] other = new int[MOST_DEEDS];

        void add(int what, int first, int second) {
            if (size >= 0 && size < MOST_DEEDS) {
                deed[size] = what;
                one[size] = first;
                other[size] = second;
                size++;
            }
        }

        void become(Deeds model) {
            size = model.size;
            for (int k = 0; k < size; k++) {
                deed[k] = model.deed[k];
                one[k] = model.one[k];
                other[k] = model.other[k];
            }
        }
    }

    /**
     * Orders of the CUPS that are not made, tried lesser numbers ahead, so that the first of the best ones stays.
     * What goes on along an order is handed down as numbers: nothing has to be taken back.
     */
    private static final class Search {
        final Cups cups;
        final int[] path = new int[MOST_CUPS];
        final int[] best = new int[MOST_CUPS];
        int bestSize;
        int bestValue;
        private boolean sums;
        /** What is above this is of no use any more. */
        private int ceiling;
        private int hits;

        Search(Cups cups) {
            this.cups = cups;
        }

        void findBest(Counter now, int goal) {
            bestSize = 0;
            bestValue = 0;
            ceiling = NO_CEILING;
            sums = goal == LEAST_SUM;
            if (goal == FEWEST_WRONG) {
                tryByWrong(this, 0, now.made, now.had, now.howManyWrong());
            } else {
                tryByTime(this, 0, now.made, now.time, now.last, sums ? 0 : now.time);
            }
        }

        int howManyWith(Counter now, int wrongOnes) {
            hits = 0;
            countByWrong(this, 0, now.made, now.had, wrongOnes - now.howManyWrong());
            return hits;
        }

        void findMost(Counter now, int latestTime) {
            bestSize = 0;
            ceiling = latestTime;
            tryForMost(this, 0, now.made, now.time, now.last);
        }

        void layBest(Row row) {
            row.layAnew(bestSize);
            for (int k = 0; k < bestSize; k++) {
                row.places[k] = best[k];
            }
        }

        private boolean isWhole(int depth, int made) {
            return depth >= MOST_CUPS || made == cups.everyOne();
        }

        private void rememberPath(int depth) {
            bestSize = depth;
            for (int k = 0; k < depth; k++) {
                best[k] = path[k];
            }
        }

        /** From now on only what is less than this will do. */
        private void improve(int depth, int value) {
            bestValue = value;
            ceiling = value - 1;
            rememberPath(depth);
        }

        private static void tryByTime(Search s, int depth, int made, int time, int last, int value) {
            // values never shrink on the way: what is too much now is too much at the end
            if (value > s.ceiling) {
                return;
            }
            if (s.isWhole(depth, made)) {
                s.improve(depth, value);
                return;
            }
            for (int i = 0; i < s.cups.size; i++) {
                if ((made & 1 << i) == 0) {
                    int then = time + s.cups.timeBehind(i, last);
                    int worth = s.sums ? value + then : then;
                    s.path[depth] = i;
                    tryByTime(s, depth + 1, made | 1 << i, then, i, s.cups.isThere(i) ? worth : value);
                }
            }
        }

        private static void tryByWrong(Search s, int depth, int made, int had, int wrongOnes) {
            if (wrongOnes > s.ceiling) {
                return;
            }
            if (s.isWhole(depth, made)) {
                s.improve(depth, wrongOnes);
                return;
            }
            for (int i = 0; i < s.cups.size; i++) {
                if ((made & 1 << i) == 0) {
                    int who = s.cups.taker(i, had);
                    int more = who != NONE && who != i ? 1 : 0;
                    s.path[depth] = i;
                    tryByWrong(s, depth + 1, made | 1 << i, had | setOf(who), wrongOnes + more);
                }
            }
        }

        /** Counts the orders by which just so many more go wrong. */
        private static void countByWrong(Search s, int depth, int made, int had, int moreWrong) {
            if (moreWrong < 0) {
                return;
            }
            if (s.isWhole(depth, made)) {
                s.hits += moreWrong == 0 ? 1 : 0;
                return;
            }
            for (int i = 0; i < s.cups.size; i++) {
                if ((made & 1 << i) == 0) {
                    int who = s.cups.taker(i, had);
                    int more = who != NONE && who != i ? 1 : 0;
                    countByWrong(s, depth + 1, made | 1 << i, had | setOf(who), moreWrong - more);
                }
            }
        }

        private static void tryForMost(Search s, int depth, int made, int time, int last) {
            if (time > s.ceiling) {
                return;
            }
            if (depth > s.bestSize) {
                s.rememberPath(depth);
            }
            if (s.isWhole(depth, made)) {
                return;
            }
            for (int i = 0; i < s.cups.size; i++) {
                if ((made & 1 << i) == 0) {
                    s.path[depth] = i;
                    tryForMost(s, depth + 1, made | 1 << i, time + s.cups.timeBehind(i, last), i);
                }
            }
        }
    }
}
