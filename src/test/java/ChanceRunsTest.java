import java.lang.reflect.Method;
import java.util.ArrayList;
import java.util.HashMap;
import java.util.List;
import java.util.Map;
import java.util.Random;

/** Runs of calls by chance (always the same ones) on AnnCups and on PlainModel: each answer must be the same. */
public final class ChanceRunsTest {
    private static final int RUNS = 1500;
    /** The document speaks of 512 calls on an object; the dearest step, a BAR that is written, has some 75 of them. */
    private static final int CALLS = 512 - 75;
    private static final String[] NAMES = {"row", "lay", "at", "tear", "copy", "mean", "text", "put", "fault", "bar",
        "cup", "mark", "holds", "make", "change", "toss", "undo", "keep", "on", "least", "latest", "fewest", "orders",
        "makes", "done", "wrong", "mends", "runs", "whose", "alike", "give", "reach", "ears", "kinds", "wag", "odds",
        "mid", "lots", "count", "finding", "findings", "digest"};
    /** Changes of the BAR come more often than the rest, so that most of what is asked has something to tell. */
    private static final String[] OFTEN = {"make", "make", "make", "change", "toss", "lots"};
    /** Behind these nobody asks what was told. */
    private static final List<String> UNTOLD = List.of("asked", "upper", "lower", "text", "put");
    private static final int[] EDGES = {-1, 0, 1, 2, 3, 5, 6, 7, 9, 12, 13, 20, 21, 40, 41, 60, 61, 99, 100,
        Integer.MAX_VALUE, Integer.MIN_VALUE, -9, 2147483646};

    private final Random chance;
    private final AnnCups real = new AnnCups();
    private final PlainModel model = new PlainModel();
    private final Map<String, Method> face;
    private final List<String> trace = new ArrayList<>();
    private int failures;
    private int used;

    private ChanceRunsTest(long seed, Map<String, Method> face) {
        chance = new Random(seed);
        this.face = face;
    }

    public static void main(String[] args) throws Exception {
        Map<String, Method> face = new HashMap<>();
        for (Method m : AnnCups.class.getDeclaredMethods()) {
            face.put(m.getName(), m);
        }
        int runs = args.length > 0 ? Integer.parseInt(args[0]) : RUNS;
        int first = args.length > 1 ? Integer.parseInt(args[1]) : 1;
        for (int run = first; run < first + runs; run++) {
            ChanceRunsTest test = new ChanceRunsTest(run, face);
            test.run();
            if (test.used > 512) {
                System.out.println("run by chance " + run + " has " + test.used + " calls");
                System.exit(1);
            }
            if (test.failures > 0) {
                System.out.println("run by chance " + run + " failed");
                System.exit(1);
            }
        }
        System.out.println(runs + " runs by chance are as the plain model has them");
    }

    private void run() throws Exception {
        while (used < CALLS && failures == 0) {
            int dice = chance.nextInt(100);
            if (trace.isEmpty() ? chance.nextInt(4) > 0 : dice < 2) {
                writeBar();
            } else if (dice < 20) {
                String name = OFTEN[chance.nextInt(OFTEN.length)];
                both(name, numbers(name));
            } else if (dice < 25) {
                layCups();
            } else {
                String name = NAMES[chance.nextInt(NAMES.length)];
                both(name, numbers(name));
            }
            if (chance.nextInt(8) == 0) {
                both("digest");
            }
        }
    }

    private long both(String name, int... a) throws Exception {
        Object[] boxed = new Object[a.length];
        StringBuilder call = new StringBuilder(name).append('(');
        for (int k = 0; k < a.length; k++) {
            boxed[k] = a[k];
            call.append(k > 0 ? ", " : "").append(a[k]);
        }
        used++;
        long got = ((Number) face.get(name).invoke(real, boxed)).longValue();
        long due = model.call(name, a);
        trace.add(call.append(") = ").append(got).toString());
        if (got != due) {
            failures++;
            trace.forEach(System.out::println);
            System.out.println("due is " + due);
        } else if (!UNTOLD.contains(name)) {
            both("asked");
            both("upper");
            both("lower");
            trace.subList(trace.size() - 3, trace.size()).clear();
        }
        return got;
    }

    private int[] numbers(String name) {
        int many = face.get(name).getParameterCount();
        int[] a = new int[many];
        for (int k = 0; k < many; k++) {
            a[k] = number(name, k);
        }
        return a;
    }

    private int number(String name, int k) {
        if (chance.nextInt(12) == 0) {
            return EDGES[chance.nextInt(EDGES.length)];
        }
        switch (name + k) {
            case "row1": return chance.nextInt(43) - 1;
            case "lay2": return chance.nextInt(3) > 0 ? chance.nextInt(9) - 1 : chance.nextInt();
            case "copy1": case "copy3": case "copy4": return chance.nextInt(12) - 1;
            case "text1": return chance.nextInt(63) - 1;
            case "put1": return chance.nextInt(40) - 1;
            case "put2": return chance.nextInt(600) - 200;
            case "undo0": return (int) Math.max(0, model.call("count", 2) + 1 - chance.nextInt(5));
            case "done0": return chance.nextInt(60);
            case "kinds1": return chance.nextInt(20);
            case "kinds2": return chance.nextInt(2);
            case "wag0": return chance.nextInt(3);
            case "odds1": case "mid0": case "count0": return chance.nextInt(13);
            case "lots0": return 1 + chance.nextInt(6);
            case "lots1": return 1 + chance.nextInt(2147483646);
            default: return chance.nextInt(6);
        }
    }

    /** A TEXT that is a BAR, or nearly one. */
    private void writeBar() throws Exception {
        StringBuilder s = new StringBuilder();
        blanks(s);
        s.append('e').append(chance.nextInt(3) == 0 ? chance.nextInt(10) : chance.nextInt(3));
        int cups = chance.nextInt(3) == 0 ? 1 + chance.nextInt(7) : 4 + chance.nextInt(3);
        int names = chance.nextInt(2) == 0 ? 10 : 4;
        for (int i = 0; i < cups; i++) {
            blanks(s);
            int name = chance.nextInt(names);
            s.append("cjtgfd".charAt(chance.nextInt(6))).append(1 + chance.nextInt(9)).append(chance.nextInt(4));
            s.append(name).append(chance.nextInt(2) == 0 ? name : chance.nextInt(names));
        }
        blanks(s);
        if (chance.nextInt(4) == 0) {
            int at = chance.nextInt(s.length());
            s.setCharAt(at, " ec0459jtgfd:/\u00e5".charAt(chance.nextInt(15)));
        }
        if (chance.nextInt(8) == 0) {
            s.setLength(chance.nextInt(s.length() + 1));
        }
        if (s.length() > 60) {
            s.setLength(60);
        }
        int t = chance.nextInt(4);
        both("text", t, s.length());
        for (int i = 0; i < s.length(); i++) {
            if (s.charAt(i) != ' ' || chance.nextInt(5) == 0) {
                both("put", t, i, s.charAt(i));
            }
        }
        both("fault", t);
        both("bar", t);
    }

    private void blanks(StringBuilder s) {
        if (chance.nextInt(3) == 0) {
            s.append("   ", 0, chance.nextInt(3) + 1);
        }
    }

    /** A ROW of CUPS, or of pairs that mostly are as they could be. */
    private void layCups() throws Exception {
        int r = chance.nextInt(6);
        int many = chance.nextInt(8);
        List<Integer> order = new ArrayList<>(List.of(0, 1, 2, 3, 4, 5));
        java.util.Collections.shuffle(order, chance);
        if (chance.nextBoolean()) {
            both("row", r, many);
            for (int k = 0; k < many; k++) {
                both("lay", r, k, k < 6 ? order.get(k) : chance.nextInt(8) - 1);
            }
            both("makes", r);
        } else {
            int pairs = chance.nextInt(4);
            both("row", r, 2 * pairs);
            for (int k = 0; k < pairs; k++) {
                both("lay", r, 2 * k, order.get(k));
                long who = model.call("reach", order.get(k));
                both("lay", r, 2 * k + 1, chance.nextInt(4) == 0 ? chance.nextInt(7) : (int) who);
            }
            both("ears", r);
        }
    }
}
