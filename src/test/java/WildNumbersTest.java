import java.lang.reflect.Method;
import java.util.ArrayList;
import java.util.List;

/**
 * Every call with numbers at, next to and far from the edges, in every combination, in several settings: the answer is the
 * one of PlainModel, nothing is thrown, and what is refused changes nothing but finding() and findings().
 */
public final class WildNumbersTest {
    private static final int LEAST = Integer.MIN_VALUE, MOST = Integer.MAX_VALUE;
    private static final int[] MANY = {LEAST, LEAST + 1, -65536, -256, -129, -128, -32, -10, -9, -8, -2, -1, 0, 1, 2, 3, 4, 5, 6, 7,
        9, 11, 12, 13, 15, 16, 20, 21, 31, 32, 33, 39, 40, 41, 59, 60, 61, 64, 99, 100, 127, 128, 255, 256, 65536, MOST - 1, MOST};
    private static final int[] SOME = {LEAST, -9, -1, 0, 1, 2, 3, 5, 6, 12, 20, 32, 39, 40, 41, 59, 60, 61, 99, 100, 256, MOST};
    private static final int[] FEW = {LEAST, -1, 0, 1, 3, 5, 6, 40, MOST};
    private static final String[] SETTINGS = {
        "",
        "row 0 3, lay 0 0 7, lay 0 2 9, row 1 0, row 3 40, text 1 0, text 2 60",
        "bar e1c4033_j6114t5026g3155f7157d2098, row 0 3, lay 0 1 4, row 1 0, row 3 40, row 4 7, text 1 0, make 1, make 4, make 0, "
            + "keep 0, change 0 1, toss 4, keep 2, odds 2 5, at 0 1",
        "bar e0c1001c1000c1009, row 0 6, lay 0 0 2, make 0, make 1, keep 1, lots 20 7, lots 17 9, mean 0, make 2",
        "bar e9g2000, row 0 2, lay 0 1 -9, keep 0, keep 1, keep 2, mid 3"};

    private static AnnCups real;
    private static PlainModel model;
    private static int used;
    private static int calls;
    private static int wrong;

    public static void main(String[] args) throws Exception {
        for (String setting : SETTINGS) {
            for (Method m : AnnCups.class.getDeclaredMethods()) {
                if (java.lang.reflect.Modifier.isPublic(m.getModifiers())) {
                    rebuild(setting);
                    sweep(setting, m, new int[m.getParameterCount()], 0);
                }
            }
        }
        System.out.println(calls + " calls with wild numbers, not as due: " + wrong);
        if (wrong != 0) {
            System.exit(1);
        }
    }

    private static void rebuild(String setting) throws Exception {
        real = new AnnCups();
        model = new PlainModel();
        used = 0;
        for (String step : setting.split(", ")) {
            String[] words = step.split(" ");
            if (words[0].equals("bar")) {
                writeBar(words[1].replace('_', ' '));
            } else if (!step.isEmpty()) {
                int[] a = new int[words.length - 1];
                for (int k = 0; k < a.length; k++) {
                    a[k] = Integer.parseInt(words[k + 1]);
                }
                both(words[0], a);
            }
        }
    }

    private static void writeBar(String bar) throws Exception {
        both("text", 0, bar.length());
        for (int i = 0; i < bar.length(); i++) {
            both("put", 0, i, bar.charAt(i));
        }
        both("bar", 0);
    }

    private static void both(String name, int... a) throws Exception {
        for (Method m : AnnCups.class.getDeclaredMethods()) {
            if (m.getName().equals(name)) {
                ask(m, a);
            }
        }
        model.call(name, a);
    }

    private static long ask(Method m, int[] a) throws Exception {
        Object[] boxed = new Object[a.length];
        for (int k = 0; k < a.length; k++) {
            boxed[k] = a[k];
        }
        used++;
        return ((Number) m.invoke(real, boxed)).longValue();
    }

    private static void sweep(String setting, Method m, int[] a, int k) throws Exception {
        if (k < a.length) {
            int[] numbers = a.length <= 2 ? MANY : a.length == 3 ? SOME : FEW;
            for (int v : numbers) {
                a[k] = v;
                sweep(setting, m, a, k + 1);
            }
            return;
        }
        if (used > 400) {
            rebuild(setting);
        }
        List<Long> before = told();
        long got = ask(m, a);
        calls++;
        due(m, a, "answered", got, model.call(m.getName(), a));
        boolean refused = got < 0 && got > AnnCups.NONE && m.getReturnType() == int.class && a.length > 0;
        if (refused) {
            for (int f = 0; f < before.size(); f++) {
                due(m, a, "refused, told " + f, told().get(f), before.get(f));
            }
        }
        due(m, a, "finding()", real.finding(), model.call("finding"));
        if (!refused) {
            String[] names = {"asked", "upper", "lower", "digest"};
            for (int f = 0; f < names.length; f++) {
                due(m, a, names[f], told().get(f), model.call(names[f]));
            }
            if (!told().equals(before)) {
                rebuild(setting);
            }
        }
    }

    private static List<Long> told() {
        used += 4;
        return new ArrayList<>(List.of((long) real.asked(), real.upper(), real.lower(), real.digest()));
    }

    private static void due(Method m, int[] a, String what, long got, long want) {
        if (got != want) {
            wrong++;
            if (wrong <= 40) {
                System.out.println(m.getName() + java.util.Arrays.toString(a) + " " + what + " " + got + ", due is " + want);
            }
        }
    }
}
