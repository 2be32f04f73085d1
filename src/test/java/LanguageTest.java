import java.lang.management.ManagementFactory;
import java.lang.reflect.Constructor;
import java.lang.reflect.Field;
import java.lang.reflect.Method;
import java.lang.reflect.Modifier;
import java.nio.file.Files;
import java.nio.file.Path;
import java.util.ArrayList;
import java.util.Arrays;
import java.util.List;
import java.util.TreeSet;
import java.util.regex.Matcher;
import java.util.regex.Pattern;

/** The rules of LANGUAGE.md that can be seen from the class and from its text, and how much room a run takes. */
public final class LanguageTest {
    private static final String[] FACE = {"int row(int int)", "int lay(int int int)", "int at(int int)", "int tear(int)",
        "int copy(int int int int int)", "int mean(int)", "int text(int int)", "int put(int int int)", "int fault(int)",
        "int bar(int)", "int cup(int int)", "int mark(int int)", "int holds(int)", "int make(int)",
        "int change(int int)", "int toss(int)", "int undo(int)", "int keep(int)", "int on(int)", "int least(int)",
        "int latest(int)", "int fewest(int)", "int orders(int)", "int makes(int)", "int done(int int)", "int wrong()",
        "int mends()", "int runs(int)", "int whose(int)", "int alike()", "int give()", "int reach(int)",
        "int ears(int)", "int kinds(int int int)", "int wag(int)", "int odds(int int)", "int mid(int)",
        "int lots(int int)", "int asked()", "long upper()", "long lower()", "int count(int)", "int finding()",
        "int findings(int)", "long digest()"};
    private static final String[] CONSTANTS = {"BAD=-1", "FULL=-2", "FINDING=-3", "STATE=-4", "SPENT=-6", "NONE=-9"};
    private static final String[] LIBRARY = {"Arrays.fill", "System.arraycopy", "Integer.bitCount", "Math.abs",
        "Math.max", "Math.min"};
    private static final int CALLS = 512;

    private static final List<String> faults = new ArrayList<>();

    public static void main(String[] args) throws Exception {
        String source = Files.readString(Path.of("src/main/java/AnnCups.java"));
        face();
        constants();
        members();
        words(withoutComments(source));
        sizes(source);
        room();
        for (String fault : faults) {
            System.out.println(fault);
        }
        System.out.println("rules of the language that are broken: " + faults.size());
        if (!faults.isEmpty()) {
            System.exit(1);
        }
    }

    private static void need(boolean so, String otherwise) {
        if (!so) {
            faults.add(otherwise);
        }
    }

    private static String told(Method m) {
        StringBuilder s = new StringBuilder(m.getReturnType() + " " + m.getName() + "(");
        for (Class<?> type : m.getParameterTypes()) {
            s.append(s.charAt(s.length() - 1) == '(' ? "" : " ").append(type);
        }
        return s.append(')').toString();
    }

    private static void face() {
        TreeSet<String> due = new TreeSet<>(Arrays.asList(FACE));
        TreeSet<String> got = new TreeSet<>();
        TreeSet<String> names = new TreeSet<>();
        for (Method m : AnnCups.class.getDeclaredMethods()) {
            if (!Modifier.isPrivate(m.getModifiers())) {
                got.add(told(m));
                names.add(m.getName());
                need(Modifier.isPublic(m.getModifiers()), "not public: " + m);
            }
        }
        need(got.equals(due), "the face is " + got);
        List<Class<?>> all = new ArrayList<>(Arrays.asList(AnnCups.class.getDeclaredClasses()));
        all.add(AnnCups.class);
        for (Class<?> c : all) {
            for (Method m : c.getDeclaredMethods()) {
                need(c == AnnCups.class && Modifier.isPublic(m.getModifiers()) || !names.contains(m.getName()),
                    "bears the name of a public one: " + m);
                need(m.getParameterCount() <= 7, "more than seven parameters: " + m);
            }
        }
        Constructor<?>[] made = AnnCups.class.getDeclaredConstructors();
        need(made.length == 1 && made[0].getParameterCount() == 0 && Modifier.isPublic(made[0].getModifiers()),
            "the constructor is another");
        need(Modifier.isFinal(AnnCups.class.getModifiers()), "the class is not final");
    }

    private static void constants() throws Exception {
        TreeSet<String> got = new TreeSet<>();
        for (Field f : AnnCups.class.getFields()) {
            got.add(f.getName() + "=" + f.get(null));
        }
        need(got.equals(new TreeSet<>(Arrays.asList(CONSTANTS))), "the constants are " + got);
    }

    private static void members() {
        List<Class<?>> all = new ArrayList<>(Arrays.asList(AnnCups.class.getDeclaredClasses()));
        need(all.size() <= 12, "more than twelve classes");
        for (Class<?> c : all) {
            need(Modifier.isStatic(c.getModifiers()), "an inner class that is not static: " + c);
            need(c.getDeclaredClasses().length == 0, "a class within one that is inside: " + c);
        }
        all.add(AnnCups.class);
        for (Class<?> c : all) {
            int fields = 0;
            for (Field f : c.getDeclaredFields()) {
                int m = f.getModifiers();
                need(!Modifier.isStatic(m) || Modifier.isFinal(m), "a static field that is not final: " + f);
                need(c != AnnCups.class || Modifier.isPublic(m) || Modifier.isPrivate(m), "a field to be seen: " + f);
                fields += Modifier.isStatic(m) ? 0 : 1;
            }
            need(fields <= 20, "more than twenty fields: " + c);
        }
    }

    private static String withoutComments(String source) {
        return source.replaceAll("(?s)/\\*.*?\\*/", "").replaceAll("//[^\n]*", "");
    }

    private static void words(String code) {
        for (String word : new String[] {"throw", "throws", "try", "catch", "synchronized", "assert", "native", "volatile",
            "package", "extends", "hashCode", "toString", "equals", "var", "float", "double"}) {
            need(!Pattern.compile("\\b" + word + "\\b").matcher(code).find(), "the word " + word);
        }
        need(!code.contains("->") && !code.contains("::") && !code.contains("\"") && !code.contains("@"),
            "a lambda, a method reference, a text or an annotation");
        Matcher imports = Pattern.compile("import ([^;]*);").matcher(code);
        while (imports.find()) {
            need(imports.group(1).equals("java.util.Arrays"), "an import: " + imports.group(1));
        }
        Matcher library = Pattern.compile("(?<![.\\w])(Arrays|System|Integer|Long|Math|Character|Byte|String)\\.\\w+")
            .matcher(code);
        while (library.find()) {
            need(Arrays.asList(LIBRARY).contains(library.group()), "of the library: " + library.group());
        }
    }

    /** Methods stay short: from a line that opens one, four or eight blanks in, to the brace that closes it. */
    private static void sizes(String source) {
        String[] lines = source.split("\n");
        for (int i = 0; i < lines.length; i++) {
            if (lines[i].matches("( {4}| {8})\\w[^;=]*\\) \\{") && !lines[i].matches(" *(if|for|while|switch|\\}).*")) {
                String end = lines[i].replaceAll("\\S.*", "") + "}";
                int j = i;
                while (j < lines.length && !lines[j].equals(end)) {
                    j++;
                }
                need(j - i < 60, "a long method: " + lines[i].trim());
            }
            need(lines[i].length() <= 120, "a long line: " + (i + 1));
        }
    }

    /** All rows are made with the object: calls make nothing more, however dear they are. */
    private static void room() {
        com.sun.management.ThreadMXBean bean = (com.sun.management.ThreadMXBean) ManagementFactory.getThreadMXBean();
        long id = Thread.currentThread().getId();
        dearCalls(full());
        AnnCups x = full();
        bean.getThreadAllocatedBytes(id);
        long before = bean.getThreadAllocatedBytes(id);
        dearCalls(x);
        long calls = bean.getThreadAllocatedBytes(id) - before;
        need(calls < 4096, "the calls of a run make " + calls + " bytes");
        before = bean.getThreadAllocatedBytes(id);
        new AnnCups();
        long made = bean.getThreadAllocatedBytes(id) - before;
        need(made < 20000, "an object takes " + made + " bytes");
    }

    private static AnnCups full() {
        AnnCups x = new AnnCups();
        String bar = "e1c4033j6114t5026g3155f7157d2098";
        x.text(0, bar.length());
        for (int i = 0; i < bar.length(); i++) {
            x.put(0, i, bar.charAt(i));
        }
        x.bar(0);
        return x;
    }

    private static void dearCalls(AnnCups x) {
        for (int k = 0; k < CALLS / 16; k++) {
            x.least(0);
            x.latest(1);
            x.fewest(2);
            x.orders(1);
            x.done(99, 3);
            x.wag(2);
            x.mid(5);
            x.digest();
            x.lots(20, k + 1);
            x.keep(k % 3);
            x.undo(0);
            x.on(k % 3);
            x.mends();
            x.undo(0);
            x.bar(0);
            x.ears(4);
        }
    }
}
