import java.lang.reflect.Array;
import java.lang.reflect.Constructor;
import java.lang.reflect.Field;
import java.lang.reflect.Method;
import java.lang.reflect.Modifier;
import java.nio.file.Files;
import java.nio.file.Path;
import java.util.Arrays;
import java.util.Collections;
import java.util.IdentityHashMap;
import java.util.Set;
import java.util.TreeSet;
import java.util.regex.Matcher;
import java.util.regex.Pattern;

/** The public face, the rules of LANGUAGE.md that can be looked for, and how much room an object takes. */
public final class RulesTest {
    private static final String[] FACE = {
        "text()", "units(int,int,long)", "point(int,int)", "copy(int,int,int)", "append(int,int,int,int)",
        "reversed(int)", "insert(int,int,int)", "remove(int,int,int)", "undo()", "at(int,int)", "length(int)",
        "points(int)", "pointAt(int,int)", "half(int,int)", "order(int,int,boolean)",
        "equalParts(int,int,int,int,int)", "suffix(int,int)", "rank(int,int)", "common(int,int,int)",
        "border(int,int)", "find(int,int,int)", "countOf(int,int)", "wild(int,int,int,int)",
        "near(int,int,int,int)", "pattern(int)", "matches(int)", "match(int,int)", "longestCommon(int,int,int)",
        "ofMany(int,int)", "period(int,int,int)", "root(int)", "squares(int)", "runs(int)", "run(int,int)",
        "palindrome(int,int)", "palindromes(int)", "leastRotation(int)", "lyndon(int,int)", "parts(int)",
        "nthPart(int,int)", "unique(int,int)", "leastUnique(int)", "absent(int)", "cover(int)", "word(int)",
        "distance(int,int)", "script(int,int)", "subsequence(int,int)", "pair(int,int)", "squeeze(int,int)",
        "squeezed(int,int)", "expand()", "sort(int)", "sorted(int)", "unsort()", "count(int)", "forget()"
    };
    private static final String[] WORDS_OUT = {
        "throw", "throws", "try", "catch", "finally", "synchronized", "assert", "import", "package", "protected",
        "float", "double", "native", "volatile", "transient", "System\\.(?!arraycopy)\\w+", "Object", "Exception",
        "\\w+Exact"
    };

    private static int wrong = 0;

    private static void hold(boolean held, String told) {
        if (!held) {
            wrong++;
            System.out.println(told);
        }
    }

    private static void face() {
        hold(Modifier.isFinal(UnitAtlas.class.getModifiers()), "the class is not final");
        Set<String> found = new TreeSet<>();
        Set<String> names = new TreeSet<>();
        for (Method m : UnitAtlas.class.getDeclaredMethods()) {
            if (!Modifier.isPrivate(m.getModifiers())) {
                String types = Arrays.toString(Arrays.stream(m.getParameterTypes()).map(Class::getName).toArray());
                found.add(m.getName() + "(" + types.substring(1, types.length() - 1).replace(" ", "") + ")");
                names.add(m.getName());
                hold(m.getReturnType() == int.class && Modifier.isPublic(m.getModifiers()), "wrong face: " + m);
            }
        }
        hold(found.equals(new TreeSet<>(Arrays.asList(FACE))), "another face than the document's: " + found);
        Constructor<?>[] made = UnitAtlas.class.getDeclaredConstructors();
        hold(made.length == 1 && made[0].getParameterCount() == 0 && Modifier.isPublic(made[0].getModifiers()),
            "another constructor");
        Set<String> constants = new TreeSet<>();
        for (Field f : UnitAtlas.class.getDeclaredFields()) {
            if (!Modifier.isPrivate(f.getModifiers())) {
                constants.add(f.getName());
            }
        }
        hold(constants.equals(new TreeSet<>(Arrays.asList("NONE", "BAD", "FULL", "NO"))), "fields: " + constants);
        hold(UnitAtlas.NONE == -1 && UnitAtlas.BAD == -2 && UnitAtlas.FULL == -3 && UnitAtlas.NO == -4, "constants");
        for (Class<?> inside : UnitAtlas.class.getDeclaredClasses()) {
            insideClass(inside, names);
        }
        hold(UnitAtlas.class.getDeclaredClasses().length <= 12, "too many classes");
    }

    private static void insideClass(Class<?> inside, Set<String> names) {
        hold(Modifier.isStatic(inside.getModifiers()), inside + " is not static");
        for (Method m : inside.getDeclaredMethods()) {
            hold(!names.contains(m.getName()), m + " bears the name of a public method");
            hold(m.getParameterCount() <= 7, m + " takes too many");
        }
        int fields = 0;
        for (Field f : inside.getDeclaredFields()) {
            fields += Modifier.isStatic(f.getModifiers()) ? 0 : 1;
            hold(!Modifier.isStatic(f.getModifiers()) || Modifier.isFinal(f.getModifiers()), f + " is not final");
        }
        hold(fields <= 20, inside + " has too many fields");
    }

    private static void source() throws Exception {
        Path file = Path.of(System.getProperty("project.root", "."), "src/main/java/UnitAtlas.java");
        String text = Files.readString(file);
        String code = text.replaceAll("(?s)/\\*.*?\\*/", "").replaceAll("//[^\n]*", "");
        for (String word : WORDS_OUT) {
            Matcher m = Pattern.compile("\\b" + word + "\\b").matcher(code);
            hold(!m.find(), "the program uses: " + word);
        }
        hold(!code.contains("->") && !code.contains("::"), "the program uses a lambda or a method reference");
        int start = 0;
        String[] lines = text.split("\n");
        for (int n = 0; n < lines.length; n++) {
            if (lines[n].matches("\\s+.*\\) \\{") && !lines[n].matches("\\s+(if|for|while|switch|} else).*")) {
                start = n;
            }
            if (lines[n].matches("( {4}| {8})}")) {
                hold(n - start <= 60 || lines[n].startsWith("    }"), "a long method ends in line " + (n + 1));
            }
        }
    }

    private static long[] roomOf(Object o, Set<Object> seen) throws Exception {
        long[] room = new long[2];
        if (o == null || !seen.add(o)) {
            return room;
        }
        room[0] = 1;
        if (o.getClass().isArray()) {
            int length = Array.getLength(o);
            room[1] = length;
            for (int i = 0; !o.getClass().getComponentType().isPrimitive() && i < length; i++) {
                addTo(room, roomOf(Array.get(o, i), seen));
            }
            return room;
        }
        for (Field f : o.getClass().getDeclaredFields()) {
            if (!Modifier.isStatic(f.getModifiers())) {
                f.setAccessible(true);
                room[1]++;
                if (!f.getType().isPrimitive()) {
                    addTo(room, roomOf(f.get(o), seen));
                }
            }
        }
        return room;
    }

    private static void addTo(long[] room, long[] more) {
        room[0] += more[0];
        room[1] += more[1];
    }

    private static void callAll(UnitAtlas x) {
        x.ofMany(1, 0);
        x.distance(0, 0);
        x.subsequence(0, 0);
        x.suffix(0, 0);
        x.matches(0);
        x.cover(0);
        x.runs(0);
        x.palindromes(0);
        x.leastUnique(0);
        x.absent(0);
        x.undo();
        x.squeeze(0, 1);
        x.expand();
        x.undo();
        x.sort(0);
        x.unsort();
        x.undo();
        x.longestCommon(0, 0, 0);
    }

    /** What a run of calls makes is counted: so calls make nothing, once an object has been asked for all. */
    private static void room() throws Exception {
        UnitAtlas x = new UnitAtlas();
        long[] before = roomOf(x, Collections.newSetFromMap(new IdentityHashMap<>()));
        hold(before[1] < 40_000, "a new object has " + before[1] + " fields and elements");
        x.text();
        x.units(0, 4, 0x0061_0062_0061_0061L);
        callAll(x);
        long[] after = roomOf(x, Collections.newSetFromMap(new IdentityHashMap<>()));
        hold(after[0] < 400, "an object has " + after[0] + " parts");
        hold(after[1] < 180_000, "an object has " + after[1] + " fields and elements");
        com.sun.management.ThreadMXBean threads =
            (com.sun.management.ThreadMXBean) java.lang.management.ManagementFactory.getThreadMXBean();
        long id = Thread.currentThread().getId();
        threads.getThreadAllocatedBytes(id);
        long start = threads.getThreadAllocatedBytes(id);
        for (int n = 0; n < 500; n++) {
            callAll(x);
        }
        long made = threads.getThreadAllocatedBytes(id) - start;
        hold(made < 5_000, "calls made " + made + " bytes of objects");
    }

    public static void main(String[] args) throws Exception {
        face();
        source();
        room();
        System.out.println(wrong == 0 ? "all rules hold" : wrong + " rules do not hold");
        if (wrong != 0) {
            System.exit(1);
        }
    }
}
