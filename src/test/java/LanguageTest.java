import java.lang.management.ManagementFactory;
import java.lang.reflect.Field;
import java.lang.reflect.Method;
import java.lang.reflect.Modifier;
import java.nio.file.Files;
import java.nio.file.Path;
import java.util.ArrayList;
import java.util.List;
import java.util.Set;
import java.util.TreeSet;
import java.util.regex.Matcher;
import java.util.regex.Pattern;

/** The rules of LANGUAGE.md that the source and the class tell, and that calls make no objects. */
final class LanguageTest {
    private static final Checks CHECKS = new Checks();
    private static final String FACE = "int feed(int,int,int,int,int)|int back(int)|int read()|int place()|boolean tell(int,int)|"
        + "int lay(int,int,int)|boolean undo()|int link(int,int)|int way(int,int)|int post(int,int)|int sets(int)|int lean(int)|"
        + "int explains(int)|int likeliest()|long weight(int)|int cheapest(int)|int disbelieved(int)|int blamed(int)|int level()|"
        + "int twin(int)|int trace(int)|int choice(int,int)|int after(int,boolean)|int next()|int tries(boolean)|int plan(int,int)|"
        + "int guess(int,int)|int path(int,int,int,int)|int fresh(int,int)|int lost(int,int)|int split(int)|boolean hold(int)|"
        + "boolean restore(int)|int count(int)";

    public static void main(String[] args) throws Exception {
        face();
        classes();
        words(source());
        methods(source());
        room();
        CHECKS.end();
    }

    private static String source() throws Exception {
        String text = Files.readString(Path.of("src/main/java/FaultWays.java"));
        return text.replaceAll("(?s)/\\*.*?\\*/", "").replaceAll("//[^\n]*", "");
    }

    private static void face() {
        CHECKS.promise("rule 1");
        Set<String> got = new TreeSet<>();
        for (Method m : FaultWays.class.getDeclaredMethods()) {
            if (Modifier.isPublic(m.getModifiers())) {
                got.add(m.toString().replace("public ", "").replace("FaultWays.", ""));
            } else {
                CHECKS.due(m + " is private", Modifier.isPrivate(m.getModifiers()), true);
            }
        }
        CHECKS.due("the face is the document's", got.equals(new TreeSet<>(List.of(FACE.split("\\|")))), true);
        for (Field f : FaultWays.class.getDeclaredFields()) {
            CHECKS.due(f + " is private", Modifier.isPrivate(f.getModifiers()), !f.getName().equals("NONE"));
        }
        CHECKS.due("one constructor", FaultWays.class.getDeclaredConstructors().length, 1);
        CHECKS.due("final", Modifier.isFinal(FaultWays.class.getModifiers()), true);
    }

    private static void classes() {
        CHECKS.promise("rules 2, 5, 11");
        Set<String> shown = new TreeSet<>();
        for (Method m : FaultWays.class.getMethods()) {
            shown.add(m.getName());
        }
        List<Class<?>> all = new ArrayList<>(List.of(FaultWays.class.getDeclaredClasses()));
        CHECKS.due("twelve classes at most", all.size() < 12, true);
        for (Class<?> c : all) {
            CHECKS.due(c + " is static", Modifier.isStatic(c.getModifiers()), true);
            for (Method m : c.getDeclaredMethods()) {
                CHECKS.due(m + " bears a name of the face", shown.contains(m.getName()), false);
                CHECKS.due(m + " has seven parameters at most", m.getParameterCount() <= 7, true);
            }
        }
        all.add(FaultWays.class);
        Set<Class<?>> constants = Set.of(int.class, long.class, boolean.class, char.class, String.class);
        for (Class<?> c : all) {
            int own = 0;
            for (Field f : c.getDeclaredFields()) {
                boolean isStatic = Modifier.isStatic(f.getModifiers());
                own += isStatic ? 0 : 1;
                CHECKS.due(f + " is a constant", isStatic && !(Modifier.isFinal(f.getModifiers()) && constants.contains(f.getType())), false);
            }
            CHECKS.due(c + " has twenty fields at most", own <= 20, true);
        }
    }

    private static void words(String source) {
        CHECKS.promise("rules 2, 4, 6");
        for (String word : List.of("throw", "throws", "try", "catch", "synchronized", "assert", "protected", "hashCode", "toString",
            "System.out", "Random", "Thread", "native", "volatile", "transient", "double", "float", "MAX_VALUE", "MIN_VALUE", "record", "var")) {
            CHECKS.due(word, Pattern.compile("\\b" + Pattern.quote(word) + "\\b").matcher(source).find(), false);
        }
        CHECKS.due("lambda", source.contains("->") || source.contains("::"), false);
        Matcher imports = Pattern.compile("import [^;]*;").matcher(source);
        while (imports.find()) {
            CHECKS.due(imports.group(), imports.group().equals("import java.util.Arrays;"), true);
        }
        Matcher calls = Pattern.compile("\\b(Arrays|Math|Integer|Long|System)\\.(\\w+)").matcher(source);
        Set<String> fine = Set.of("Arrays.fill", "Math.min", "Math.max", "Integer.bitCount", "Integer.compare", "System.arraycopy");
        while (calls.find()) {
            CHECKS.due(calls.group(), fine.contains(calls.group()), !calls.group().equals("Arrays.java"));
        }
        CHECKS.due("fill over numbers alone", source.contains("Arrays.fill(isHeld"), false);
    }

    private static void methods(String source) {
        CHECKS.promise("rule 11");
        String[] lines = source.split("\n");
        int start = -1;
        String indent = "";
        for (int i = 0; i < lines.length; i++) {
            if (start < 0 && lines[i].matches(" {4,8}(public |private |static |final )*[\\w\\[\\]]+( \\w+)?\\(.*\\) \\{")) {
                start = i;
                indent = lines[i].substring(0, lines[i].length() - lines[i].stripLeading().length());
            } else if (start >= 0 && lines[i].equals(indent + "}")) {
                CHECKS.due(lines[start].strip() + " is short", i - start < 60, true);
                start = -1;
            }
        }
    }

    /** All rows are made in the constructors: a long run of calls allocates next to nothing. */
    private static void room() {
        CHECKS.promise("room");
        var threads = (com.sun.management.ThreadMXBean) ManagementFactory.getThreadMXBean();
        FaultWays warm = new FaultWays();
        useAll(warm);
        long before = threads.getCurrentThreadAllocatedBytes();
        FaultWays x = new FaultWays();
        long made = threads.getCurrentThreadAllocatedBytes();
        useAll(x);
        long used = threads.getCurrentThreadAllocatedBytes();
        CHECKS.due("an object takes " + (made - before) + " bytes", made - before < 300000, true);
        CHECKS.due("calls take " + (used - made) + " bytes", used - made < 20000, true);
    }

    private static void useAll(FaultWays x) {
        Checks.type(x, "post a;post b;post c;post d;link a b 1;link a c 2;link a d 3;link b c 4;link b d 5;link c d 6;"
            + "way p a b c d;way q d b a;way r b c;bad p;good r;eye a;eye b;eye d;");
        x.read();
        for (int i = -2; i < 20; i++) {
            x.tell(i % 3, i & 3);
            x.lay(0, 1, i);
            x.undo();
            x.hold(i);
            x.restore(i);
            x.link(i, 4);
            x.post(0, i);
            x.sets(i);
            x.lean(i);
            x.explains(i);
            x.likeliest();
            x.weight(i);
            x.cheapest(i);
            x.disbelieved(i);
            x.blamed(i);
            x.level();
            x.twin(i);
            x.trace(i);
            x.choice(1, i);
            x.after(i, true);
            x.next();
            x.tries(true);
            x.plan(1, i);
            x.guess(i, 0);
            x.path(0, 1, i, 1);
            x.fresh(i, 0);
            x.lost(0, i);
            x.split(i);
            x.count(i);
        }
    }
}
