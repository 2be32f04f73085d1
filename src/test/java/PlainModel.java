import java.math.BigInteger;
import java.util.ArrayDeque;
import java.util.ArrayList;
import java.util.Arrays;
import java.util.HashMap;
import java.util.List;
import java.util.Map;

/**
 * The document once more, told as slowly and as literally as can be, with another shape than the class:
 * every question is answered by doing the DEEDS again from the start and by trying all there is to try.
 * It is what AnnCups is compared with on runs by chance.
 */
public final class PlainModel {
    static final int BAD = -1, FULL = -2, FINDING = -3, STATE = -4, SPENT = -6, NONE = -9;

    private static final class Refused extends RuntimeException {
        final int answer;
        final int finding;

        Refused(int answer, int finding) {
            super(null, null, false, false);
            this.answer = answer;
            this.finding = finding;
        }
    }

    private record Cup(char letter, int seconds, int milk, int name, int written) {
        boolean ghost() {
            return letter == 'g';
        }

        boolean is(int kind) {
            return switch (kind) {
                case 0 -> true;
                case 1 -> letter == 'j' || letter == 'f';
                case 2 -> letter == 't' || letter == 'd';
                case 3 -> letter == 'g';
                case 4 -> letter == 'f';
                default -> letter == 'd';
            };
        }
    }

    private record Deed(char what, int one, int other) { }

    /** A BAR at some moment: a plain value that is copied whenever something happens. */
    private static final class Moment {
        int time;
        Integer milkAhead;
        final Map<Integer, Integer> hands = new HashMap<>();
        final List<Integer> had = new ArrayList<>();
        final List<Integer> made = new ArrayList<>();
        final List<Integer> thrown = new ArrayList<>();

        Moment copyOf() {
            Moment m = new Moment();
            m.time = time;
            m.milkAhead = milkAhead;
            m.hands.putAll(hands);
            m.had.addAll(had);
            m.made.addAll(made);
            m.thrown.addAll(thrown);
            return m;
        }

        int holder(int cup) {
            for (Map.Entry<Integer, Integer> e : hands.entrySet()) {
                if (e.getValue() == cup) {
                    return e.getKey();
                }
            }
            return NONE;
        }

        boolean stands(int cup) {
            return made.contains(cup) && !thrown.contains(cup) && holder(cup) == NONE;
        }

        int wrong() {
            int many = 0;
            for (Map.Entry<Integer, Integer> e : hands.entrySet()) {
                if (!e.getKey().equals(e.getValue())) {
                    many++;
                }
            }
            return many;
        }
    }

    private final int[][] rows = new int[6][];
    private final byte[][] texts = new byte[4][];
    private List<Cup> cups = new ArrayList<>();
    private int ears;
    private List<Deed> deeds = new ArrayList<>();
    private final List<List<Deed>> kept = new ArrayList<>(Arrays.asList(null, null, null));
    private int asked;
    private BigInteger upper = BigInteger.ZERO;
    private BigInteger lower = BigInteger.ONE;
    private int finding;
    private final int[] findings = new int[6];

    /** One call; a refusal is noted as the Terms say. */
    public long call(String name, int... a) {
        try {
            return answer(name, a);
        } catch (Refused refused) {
            if (refused.finding > 0) {
                finding = refused.finding;
                findings[finding]++;
            }
            return refused.answer;
        }
    }

    private long answer(String name, int[] a) {
        return switch (name) {
            case "row" -> row(a[0], a[1]);
            case "lay" -> lay(a[0], a[1], a[2]);
            case "at" -> tell(there(a[0])[place(a[0], a[1])]);
            case "tear" -> tear(a[0]);
            case "copy" -> copy(a[0], a[1], a[2], a[3], a[4]);
            case "mean" -> mean(a[0]);
            case "text" -> text(a[0], a[1]);
            case "put" -> put(a[0], a[1], a[2]);
            case "fault" -> fault(new String(textThere(a[0]), java.nio.charset.StandardCharsets.ISO_8859_1));
            case "bar" -> bar(a[0]);
            case "cup" -> cup(a[0], a[1]);
            case "mark" -> mark(a[0], a[1]);
            case "holds" -> now().hands.getOrDefault(person(a[0]), NONE);
            case "make" -> make(a[0]);
            case "change" -> change(a[0], a[1]);
            case "toss" -> toss(a[0]);
            case "undo" -> undo(a[0]);
            case "keep" -> keep(a[0]);
            case "on" -> on(a[0]);
            case "least", "latest", "fewest" -> best(name, a[0]);
            case "orders" -> orders(a[0]);
            case "makes" -> makes(a[0]);
            case "done" -> done(a[0], a[1]);
            case "wrong" -> wrong();
            case "mends" -> mends();
            case "runs" -> runs(a[0]);
            case "whose" -> whose(a[0]);
            case "alike" -> alike();
            case "give" -> give();
            case "reach" -> taker(now(), person(a[0]), ears);
            case "ears" -> ears(a[0]);
            case "kinds" -> kinds(a[0], a[1], a[2]);
            case "wag" -> wag(a[0]);
            case "odds" -> odds(a[0], a[1]);
            case "mid" -> mid(a[0]);
            case "lots" -> lots(a[0], a[1]);
            case "asked" -> asked;
            case "upper" -> upper.longValueExact();
            case "lower" -> lower.longValueExact();
            case "count" -> count(a[0]);
            case "finding" -> finding;
            case "findings" -> { need(a[0] >= 1 && a[0] <= 5, BAD); yield findings[a[0]]; }
            case "digest" -> digest();
            default -> throw new IllegalArgumentException(name);
        };
    }

    private static void need(boolean so, int otherwise) {
        if (!so) {
            throw new Refused(otherwise, 0);
        }
    }

    private static void needFinding(boolean so, int finding) {
        if (!so) {
            throw new Refused(FINDING, finding);
        }
    }

    private int tell(int v) {
        asked = v;
        return 1;
    }

    private int tellParts(BigInteger up, BigInteger low) {
        BigInteger g = up.gcd(low);
        upper = up.divide(g);
        lower = low.divide(g);
        return 1;
    }

    // rows and texts

    private static void rowNumber(int r) {
        need(r >= 0 && r <= 5, BAD);
    }

    private int[] there(int r) {
        rowNumber(r);
        needFinding(rows[r] != null, 1);
        return rows[r];
    }

    private int place(int r, int i) {
        needFinding(i >= 0 && i < rows[r].length, 2);
        return i;
    }

    private byte[] textThere(int t) {
        need(t >= 0 && t <= 3, BAD);
        needFinding(texts[t] != null, 1);
        return texts[t];
    }

    private int row(int r, int n) {
        rowNumber(r);
        need(n <= 40, BAD);
        needFinding(n >= 0, 5);
        rows[r] = new int[n];
        return n;
    }

    private int lay(int r, int i, int v) {
        int[] row = there(r);
        int before = row[place(r, i)];
        row[i] = v;
        return tell(before);
    }

    private int tear(int r) {
        there(r);
        rows[r] = null;
        return 1;
    }

    private int copy(int r, int i, int to, int j, int n) {
        rowNumber(r);
        rowNumber(to);
        needFinding(n >= 0, 5);
        int[] from = there(r);
        int[] into = there(to);
        needFinding(i >= 0 && j >= 0 && (long) i + n <= from.length && (long) j + n <= into.length, 2);
        int[] taken = Arrays.copyOfRange(from, i, i + n);
        for (int k = 0; k < n; k++) {
            into[j + k] = taken[k];
        }
        return 1;
    }

    private int mean(int r) {
        int[] row = there(r);
        needFinding(row.length > 0, 4);
        BigInteger sum = BigInteger.ZERO;
        for (int v : row) {
            sum = sum.add(BigInteger.valueOf(v));
        }
        return tell(sum.divide(BigInteger.valueOf(row.length)).intValueExact());
    }

    private int text(int t, int n) {
        need(t >= 0 && t <= 3 && n <= 60, BAD);
        needFinding(n >= 0, 5);
        texts[t] = new byte[n];
        Arrays.fill(texts[t], (byte) 32);
        return n;
    }

    private int put(int t, int i, int v) {
        byte[] text = textThere(t);
        needFinding(i >= 0 && i < text.length, 2);
        int before = text[i];
        text[i] = (byte) v;
        return before + 1000;
    }

    /** The longest beginning that some BAR has: each sign must be able to go on, or it is the FAULT. */
    private static int fault(String s) {
        String[] whole = {"e", "0123456789"};
        String[] item = {"cjtgfd", "123456789", "0123", "0123456789", "0123456789"};
        int sign = 0;
        int items = 0;
        boolean within = false;
        String[] now = whole;
        for (int i = 0; i < s.length(); i++) {
            char c = s.charAt(i);
            if (c == ' ' && !within) {
                continue;
            }
            if (items == 7 || now[sign].indexOf(c) < 0) {
                return i;
            }
            within = true;
            sign++;
            if (sign == now.length) {
                within = false;
                sign = 0;
                items++;
                now = item;
            }
        }
        return within || items < 2 ? s.length() : NONE;
    }

    private int bar(int t) {
        String s = new String(textThere(t), java.nio.charset.StandardCharsets.ISO_8859_1);
        need(fault(s) == NONE, STATE);
        String tight = s.replace(" ", "");
        ears = tight.charAt(1) - '0';
        cups = new ArrayList<>();
        for (int k = 2; k < tight.length(); k += 5) {
            cups.add(new Cup(tight.charAt(k), tight.charAt(k + 1) - '0', tight.charAt(k + 2) - '0',
                    tight.charAt(k + 3) - '0', tight.charAt(k + 4) - '0'));
        }
        deeds = new ArrayList<>();
        for (int k = 0; k < 3; k++) {
            kept.set(k, null);
        }
        return cups.size();
    }

    // cups and deeds

    private int person(int i) {
        need(i >= 0 && i < cups.size(), BAD);
        return i;
    }

    private static int took(Cup cup, int kind, Integer milkAhead) {
        int s = cup.seconds();
        int jug = milkAhead != null && milkAhead == cup.milk() ? Math.max(s / 2, 1) : s;
        int tea = s > 3 ? s - 2 : 1;
        return new int[] {s, jug, tea, s, jug * 2, tea + 3}[kind];
    }

    private int takes(Moment m, int i) {
        Cup cup = cups.get(i);
        return took(cup, "cjtgfd".indexOf(cup.letter()), m.milkAhead);
    }

    private int taker(Moment m, int i, int hearing) {
        for (int p = 0; p < cups.size(); p++) {
            boolean alike = Math.abs(cups.get(p).name() - cups.get(i).written()) <= hearing;
            if (alike && !cups.get(p).ghost() && !m.had.contains(p)) {
                return p;
            }
        }
        return NONE;
    }

    private Moment made(Moment before, int i, int hearing) {
        Moment m = before.copyOf();
        int who = taker(m, i, hearing);
        m.time += takes(m, i);
        m.milkAhead = cups.get(i).milk();
        m.made.add(i);
        if (who != NONE) {
            m.hands.put(who, i);
            m.had.add(who);
        }
        return m;
    }

    private static Moment changed(Moment before, int p, int q) {
        Moment m = before.copyOf();
        Integer ofP = m.hands.remove(p);
        Integer ofQ = m.hands.remove(q);
        if (ofP != null) {
            m.hands.put(q, ofP);
            if (!m.had.contains(q)) {
                m.had.add(q);
            }
        }
        if (ofQ != null) {
            m.hands.put(p, ofQ);
            if (!m.had.contains(p)) {
                m.had.add(p);
            }
        }
        return m;
    }

    private Moment now() {
        Moment m = new Moment();
        for (Deed deed : deeds) {
            switch (deed.what()) {
                case 'm' -> m = made(m, deed.one(), ears);
                case 'c' -> m = changed(m, deed.one(), deed.other());
                case 't' -> { m = m.copyOf(); m.thrown.add(deed.one()); }
                default -> { }
            }
        }
        return m;
    }

    private int where(Moment m, int i) {
        if (!m.made.contains(i)) {
            return NONE;
        }
        if (m.thrown.contains(i)) {
            return 7;
        }
        return m.holder(i) == NONE ? 6 : m.holder(i);
    }

    private int toldOfCup(int i, int what) {
        Cup c = cups.get(i);
        Moment m = now();
        return new int[] {"cjtgfd".indexOf(c.letter()), takes(m, i), c.milk(), c.name(), c.written(), where(m, i)}[what];
    }

    private int cup(int i, int what) {
        person(i);
        need(what >= 0 && what <= 5, BAD);
        return tell(toldOfCup(i, what));
    }

    private int mark(int i, int kind) {
        person(i);
        need(kind >= 1 && kind <= 5, BAD);
        Cup c = cups.get(i);
        needFinding(c.is(kind), 3);
        Moment m = now();
        int many = 0;
        for (int j = 0; j < cups.size(); j++) {
            boolean other = j != i && !m.made.contains(j);
            Cup d = cups.get(j);
            many += switch (kind) {
                case 1 -> other && d.milk() == c.milk() ? 1 : 0;
                case 2 -> other && takes(m, j) > takes(m, i) ? 1 : 0;
                case 3 -> !d.ghost() && Math.abs(d.name() - c.written()) <= ears ? 1 : 0;
                default -> 0;
            };
        }
        return kind == 4 ? took(c, 4, c.milk()) : kind == 5 ? took(c, 2, null) : many;
    }

    private int make(int i) {
        person(i);
        need(!now().made.contains(i), STATE);
        need(deeds.size() < 40, FULL);
        deeds.add(new Deed('m', i, 0));
        return now().holder(i);
    }

    private int change(int p, int q) {
        person(p);
        person(q);
        need(p != q && !cups.get(p).ghost() && !cups.get(q).ghost(), BAD);
        Moment m = now();
        need(m.hands.containsKey(p) || m.hands.containsKey(q), STATE);
        need(deeds.size() < 40, FULL);
        deeds.add(new Deed('c', p, q));
        return now().wrong();
    }

    private int toss(int i) {
        person(i);
        need(now().stands(i), STATE);
        need(deeds.size() < 40, FULL);
        deeds.add(new Deed('t', i, 0));
        return Integer.bitCount(count(4));
    }

    private int undo(int n) {
        need(n >= 0 && n <= deeds.size(), BAD);
        int undone = 0;
        while (deeds.size() > n) {
            deeds.remove(deeds.size() - 1);
            undone++;
        }
        return undone;
    }

    private int keep(int k) {
        need(k >= 0 && k <= 2, BAD);
        need(!cups.isEmpty(), STATE);
        kept.set(k, new ArrayList<>(deeds));
        return deeds.size();
    }

    private int on(int k) {
        need(k >= 0 && k <= 2, BAD);
        needFinding(kept.get(k) != null, 1);
        deeds = new ArrayList<>(kept.get(k));
        return deeds.size();
    }

    // orders

    private List<Integer> unmade(Moment m) {
        List<Integer> list = new ArrayList<>();
        for (int i = 0; i < cups.size(); i++) {
            if (!m.made.contains(i)) {
                list.add(i);
            }
        }
        return list;
    }

    /** All orders of just so many out of a list, the first ones ahead. */
    private static List<List<Integer>> allOrders(List<Integer> of, int many) {
        List<List<Integer>> all = new ArrayList<>();
        if (many == 0) {
            all.add(new ArrayList<>());
            return all;
        }
        for (Integer first : of) {
            List<Integer> rest = new ArrayList<>(of);
            rest.remove(first);
            for (List<Integer> tail : allOrders(rest, many - 1)) {
                List<Integer> order = new ArrayList<>();
                order.add(first);
                order.addAll(tail);
                all.add(order);
            }
        }
        return all;
    }

    private void layOrder(int r, List<Integer> order) {
        rows[r] = new int[order.size()];
        for (int k = 0; k < order.size(); k++) {
            rows[r][k] = order.get(k);
        }
    }

    private int worth(String name, List<Integer> order) {
        Moment m = now();
        int sum = 0;
        int latest = m.time;
        for (int i : order) {
            m = made(m, i, ears);
            if (!cups.get(i).ghost()) {
                sum += m.time;
                latest = m.time;
            }
        }
        return name.equals("least") ? sum : name.equals("latest") ? latest : m.wrong();
    }

    private int best(String name, int r) {
        rowNumber(r);
        need(!cups.isEmpty(), STATE);
        List<Integer> left = unmade(now());
        List<Integer> first = null;
        int best = 0;
        for (List<Integer> order : allOrders(left, left.size())) {
            int worth = worth(name, order);
            if (first == null || worth < best) {
                first = order;
                best = worth;
            }
        }
        layOrder(r, first);
        return best;
    }

    private int orders(int n) {
        need(n >= 0 && n <= 6, BAD);
        need(!cups.isEmpty(), STATE);
        List<Integer> left = unmade(now());
        int many = 0;
        for (List<Integer> order : allOrders(left, left.size())) {
            many += worth("fewest", order) == n ? 1 : 0;
        }
        return tellParts(BigInteger.valueOf(many), BigInteger.ONE);
    }

    private int makes(int r) {
        rowNumber(r);
        need(!cups.isEmpty(), STATE);
        int[] row = there(r);
        needFinding(row.length <= 6, 5);
        for (int v : row) {
            needFinding(v >= 0 && v < cups.size(), 3);
        }
        Moment m = now();
        for (int v : row) {
            if (m.made.contains(v)) {
                break;
            }
            m = made(m, v, ears);
        }
        tell(m.wrong());
        return m.time;
    }

    private int done(int time, int r) {
        need(time >= 0 && time <= 99, BAD);
        rowNumber(r);
        need(!cups.isEmpty(), STATE);
        need(now().time <= time, SPENT);
        List<Integer> left = unmade(now());
        for (int many = left.size(); many >= 0; many--) {
            for (List<Integer> order : allOrders(left, many)) {
                Moment m = now();
                for (int i : order) {
                    m = made(m, i, ears);
                }
                if (m.time <= time) {
                    layOrder(r, order);
                    return many;
                }
            }
        }
        throw new IllegalStateException();
    }

    // rings, names

    private int wrong() {
        int set = 0;
        for (Map.Entry<Integer, Integer> e : now().hands.entrySet()) {
            set += e.getKey().equals(e.getValue()) ? 0 : 1 << e.getKey();
        }
        return set;
    }

    /** The nearest moment, by changes alone, at which nobody is WRONG. */
    private int mends() {
        Map<Map<Integer, Integer>, Integer> far = new HashMap<>();
        ArrayDeque<Moment> next = new ArrayDeque<>();
        Moment start = now();
        far.put(start.hands, 0);
        next.add(start);
        while (!next.isEmpty()) {
            Moment m = next.remove();
            if (m.wrong() == 0) {
                return far.get(m.hands);
            }
            for (int p = 0; p < cups.size(); p++) {
                for (int q = p + 1; q < cups.size(); q++) {
                    if (cups.get(p).ghost() || cups.get(q).ghost()) {
                        continue;
                    }
                    Moment then = changed(m, p, q);
                    if (far.putIfAbsent(then.hands, far.get(m.hands) + 1) == null) {
                        next.add(then);
                    }
                }
            }
        }
        return NONE;
    }

    private int runs(int i) {
        person(i);
        Moment m = now();
        List<Integer> people = new ArrayList<>();
        int holder = m.holder(i);
        if (holder != NONE && holder != i) {
            Integer who = i;
            while (who != null && who != holder) {
                people.add(who);
                who = m.hands.get(who);
            }
        }
        tell(people.isEmpty() ? NONE : people.get(people.size() - 1));
        return people.size();
    }

    private int hearers(int name) {
        int set = 0;
        for (int p = 0; p < cups.size(); p++) {
            set += !cups.get(p).ghost() && Math.abs(cups.get(p).name() - name) <= ears ? 1 << p : 0;
        }
        return set;
    }

    private int whose(int i) {
        return hearers(cups.get(person(i)).written());
    }

    private int alike() {
        List<Integer> pairs = new ArrayList<>();
        for (int p = 0; p < cups.size(); p++) {
            for (int q = p + 1; q < cups.size(); q++) {
                boolean there = !cups.get(p).ghost() && !cups.get(q).ghost();
                if (there && Math.abs(cups.get(p).name() - cups.get(q).name()) <= ears) {
                    pairs.add(6 * p + q);
                }
            }
        }
        tell(pairs.isEmpty() ? NONE : pairs.get(0));
        return pairs.size();
    }

    private int give() {
        need(!cups.isEmpty(), STATE);
        for (int few = 0; few <= 6; few++) {
            for (int name = 0; name <= 9; name++) {
                if (Integer.bitCount(hearers(name)) == few) {
                    tell(few);
                    return name;
                }
            }
        }
        throw new IllegalStateException();
    }

    // who held what, turns

    private int ears(int r) {
        rowNumber(r);
        need(!cups.isEmpty(), STATE);
        int[] row = there(r);
        needFinding(row.length <= 12 && row.length % 2 == 0, 5);
        List<Integer> met = new ArrayList<>(now().made);
        for (int k = 0; k < row.length; k += 2) {
            needFinding(row[k] >= 0 && row[k] < cups.size() && !met.contains(row[k]), 3);
            needFinding(row[k + 1] == NONE || row[k + 1] >= 0 && row[k + 1] < cups.size(), 3);
            met.add(row[k]);
        }
        int set = 0;
        for (int hearing = 0; hearing <= 9; hearing++) {
            Moment m = now();
            boolean so = true;
            for (int k = 0; k < row.length; k += 2) {
                m = made(m, row[k], hearing);
                so &= m.holder(row[k]) == row[k + 1];
            }
            set += so ? 1 << hearing : 0;
        }
        return set;
    }

    private int kinds(int i, int took, int milk) {
        Cup c = cups.get(person(i));
        need(took >= 0 && took <= 99 && (milk == 0 || milk == 1), BAD);
        int set = 0;
        for (int kind = 0; kind <= 5; kind++) {
            set += took(c, kind, milk == 1 ? (Integer) c.milk() : null) == took ? 1 << kind : 0;
        }
        return set;
    }

    private int wag(int n) {
        need(n >= 0 && n <= 2, BAD);
        need(!cups.isEmpty(), STATE);
        return turns(now(), n);
    }

    private int turns(Moment m, int n) {
        if (n == 0) {
            return m.wrong();
        }
        List<Integer> left = unmade(m);
        int few = Integer.MAX_VALUE;
        for (int i : left) {
            few = Math.min(few, wagged(made(m, i, ears), n));
        }
        return left.isEmpty() ? wagged(m, n) : few;
    }

    private int wagged(Moment m, int n) {
        int many = turns(m, n - 1);
        for (int p : m.hands.keySet()) {
            for (int q : m.hands.keySet()) {
                many = p < q ? Math.max(many, turns(changed(m, p, q), n - 1)) : many;
            }
        }
        return many;
    }

    // chances, lots

    private List<Integer> waiting(Moment m) {
        List<Integer> list = new ArrayList<>();
        for (int p = 0; p < cups.size(); p++) {
            if (!cups.get(p).ghost() && !m.had.contains(p)) {
                list.add(p);
            }
        }
        return list;
    }

    /** Adds up, over all who may have gone, how often it happens (of 12 each) times what is counted then. */
    private BigInteger overGone(List<Integer> may, int p, Moment m, int cup) {
        if (may.isEmpty()) {
            Moment then = m;
            if (cup >= 0) {
                return taker(m, cup, ears) == cup ? BigInteger.ONE : BigInteger.ZERO;
            }
            for (int i : unmade(m)) {
                then = made(then, i, ears);
            }
            return BigInteger.valueOf(then.wrong());
        }
        List<Integer> rest = may.subList(1, may.size());
        Moment without = m.copyOf();
        without.had.add(may.get(0));
        return overGone(rest, p, without, cup).multiply(BigInteger.valueOf(p))
                .add(overGone(rest, p, m, cup).multiply(BigInteger.valueOf(12 - p)));
    }

    private int odds(int i, int p) {
        person(i);
        need(p >= 0 && p <= 12, BAD);
        Moment m = now();
        need(!m.made.contains(i), STATE);
        List<Integer> may = waiting(m);
        may.remove((Integer) i);
        return tellParts(overGone(may, p, m, i), BigInteger.valueOf(12).pow(may.size()));
    }

    private int mid(int p) {
        need(p >= 0 && p <= 12, BAD);
        need(!cups.isEmpty(), STATE);
        Moment m = now();
        List<Integer> may = waiting(m);
        return tellParts(overGone(may, p, m, -1), BigInteger.valueOf(12).pow(may.size()));
    }

    private int lots(int n, int seed) {
        need(n >= 1 && n <= 20 && seed >= 1 && seed <= 2147483646, BAD);
        need(!cups.isEmpty(), STATE);
        need(deeds.size() + n <= 40, FULL);
        BigInteger lot = BigInteger.valueOf(seed);
        BigInteger many = BigInteger.valueOf(cups.size());
        for (int k = 0; k < n; k++) {
            lot = lot.multiply(BigInteger.valueOf(48271)).mod(BigInteger.valueOf(2147483647));
            int i = lot.mod(many).intValueExact();
            int q = lot.divide(BigInteger.valueOf(8)).mod(many).intValueExact();
            Moment m = now();
            int holder = m.holder(i);
            if (!m.made.contains(i)) {
                deeds.add(new Deed('m', i, 0));
            } else if (m.stands(i)) {
                deeds.add(new Deed('t', i, 0));
            } else if (holder != NONE && holder != q && !cups.get(q).ghost()) {
                deeds.add(new Deed('c', holder, q));
            } else {
                deeds.add(new Deed('-', 0, 0));
            }
        }
        return now().wrong();
    }

    // what is told

    private static int bits(List<Integer> list) {
        int set = 0;
        for (int v : list) {
            set |= 1 << v;
        }
        return set;
    }

    private int count(int what) {
        Moment m = now();
        return switch (what) {
            case 0 -> cups.size();
            case 1 -> m.time;
            case 2 -> deeds.size();
            case 3 -> bits(m.made);
            case 4 -> {
                int set = 0;
                for (int i : m.made) {
                    set += m.stands(i) ? 1 << i : 0;
                }
                yield set;
            }
            case 5 -> ears;
            case 6 -> (int) cups.stream().filter(c -> c.is(1)).count();
            case 7 -> (int) cups.stream().filter(c -> c.is(2)).count();
            case 8 -> bits(m.had);
            case 9 -> (int) Arrays.stream(rows).filter(r -> r != null).count();
            case 10 -> (int) Arrays.stream(texts).filter(t -> t != null).count();
            case 11 -> (int) kept.stream().filter(k -> k != null).count();
            default -> BAD;
        };
    }

    private long digest() {
        List<Integer> all = new ArrayList<>();
        for (int what = 0; what <= 11; what++) {
            all.add(count(what));
        }
        for (int i = 0; i < cups.size(); i++) {
            for (int what = 0; what <= 5; what++) {
                all.add(toldOfCup(i, what));
            }
        }
        for (int p = 0; p < cups.size(); p++) {
            all.add(now().hands.getOrDefault(p, NONE));
        }
        for (List<Deed> bar : kept) {
            all.add(bar == null ? -1 : bar.size());
        }
        for (int[] row : rows) {
            all.add(row == null ? -1 : row.length);
            for (int k = 0; row != null && k < row.length; k++) {
                all.add(row[k]);
            }
        }
        for (byte[] text : texts) {
            all.add(text == null ? -1 : text.length);
            for (int k = 0; text != null && k < text.length; k++) {
                all.add((int) text[k]);
            }
        }
        long h = 17;
        for (int v : all) {
            h = 31 * h + v;
        }
        return h;
    }
}
