import java.lang.reflect.Method;
import java.lang.reflect.Modifier;
import java.lang.reflect.Parameter;
import java.nio.file.Files;
import java.nio.file.Path;
import java.util.HashMap;
import java.util.Map;
import java.util.Set;
import java.util.TreeSet;
import java.util.regex.Matcher;
import java.util.regex.Pattern;

/** README.md tells every call of the class, and its examples, which are one run of calls, answer as it says. */
public final class ReadmeTest {
    private static final Pattern CALL =
        Pattern.compile("(?:int (\\w+) = )?atlas\\.(\\w+)\\((.*?)\\);\\s*// (-?\\w+)(?:: .*)?");
    private static final int MOST_CALLS = 512;

    private static int wrong = 0;

    private final Map<String, Integer> named = new HashMap<>();
    private final Set<String> called = new TreeSet<>();
    private UnitAtlas atlas;
    private int calls = 0;

    private static void hold(boolean held, String told) {
        if (!held) {
            wrong++;
            System.out.println(told);
        }
    }

    private static Method method(String name) {
        for (Method m : UnitAtlas.class.getDeclaredMethods()) {
            if (m.getName().equals(name) && Modifier.isPublic(m.getModifiers())) {
                return m;
            }
        }
        return null;
    }

    private static int constantOrNumber(String word) {
        return switch (word) {
            case "NONE" -> UnitAtlas.NONE;
            case "BAD" -> UnitAtlas.BAD;
            case "FULL" -> UnitAtlas.FULL;
            case "NO" -> UnitAtlas.NO;
            default -> Integer.parseInt(word);
        };
    }

    private Object argument(String word, Class<?> type) {
        if (type == boolean.class) {
            return Boolean.parseBoolean(word);
        }
        long number;
        if (named.containsKey(word)) {
            number = named.get(word);
        } else if (word.startsWith("'")) {
            number = word.charAt(1);
        } else {
            number = Long.decode(word.replace("_", "").replace("L", ""));
        }
        if (type == long.class) {
            return number;
        }
        return (int) number;
    }

    private void follow(String line) throws Exception {
        Matcher told = CALL.matcher(line);
        if (!told.matches()) {
            hold(false, "an example that can't be followed: " + line);
            return;
        }
        Method call = method(told.group(2));
        String[] words = told.group(3).isEmpty() ? new String[0] : told.group(3).split(", ");
        if (call == null || call.getParameterCount() != words.length) {
            hold(false, "no such call: " + line);
            return;
        }
        Object[] arguments = new Object[words.length];
        for (int n = 0; n < words.length; n++) {
            arguments[n] = argument(words[n], call.getParameterTypes()[n]);
        }
        int got = (Integer) call.invoke(atlas, arguments);
        hold(got == constantOrNumber(told.group(4)), "answered " + got + ": " + line);
        if (told.group(1) != null) {
            named.put(told.group(1), got);
        }
        called.add(call.getName());
        calls++;
    }

    private void examples(String text) throws Exception {
        Matcher blocks = Pattern.compile("(?s)```java\n(.*?)```").matcher(text);
        while (blocks.find()) {
            for (String line : blocks.group(1).split("\n")) {
                if (line.equals("UnitAtlas atlas = new UnitAtlas();")) {
                    atlas = new UnitAtlas();
                } else {
                    follow(line);
                }
            }
        }
        hold(calls > 0 && calls <= MOST_CALLS, "the examples have " + calls + " calls");
    }

    /** A row of a table begins with the call as the document writes it. */
    private static void tables(String text, Set<String> called) {
        for (Method m : UnitAtlas.class.getDeclaredMethods()) {
            if (Modifier.isPublic(m.getModifiers())) {
                hold(Pattern.compile("\\| `" + m.getName() + "\\(" + kinds(m) + "\\)` \\|").matcher(text).find(),
                    "no table tells " + m);
                hold(called.contains(m.getName()), "no example calls " + m);
            }
        }
    }

    private static String kinds(Method m) {
        StringBuilder all = new StringBuilder();
        for (Parameter p : m.getParameters()) {
            all.append(all.length() == 0 ? "" : ", ").append(p.getType().getName()).append(" \\w+");
        }
        return all.toString();
    }

    private static void refusals(String text) {
        String[] names = {"BAD", "FULL", "NO", "NONE"};
        for (String name : names) {
            hold(text.contains("| `" + name + "` | " + constantOrNumber(name) + " |"), "no table tells " + name);
        }
    }

    public static void main(String[] args) throws Exception {
        String text = Files.readString(Path.of(System.getProperty("project.root", "."), "README.md"));
        ReadmeTest test = new ReadmeTest();
        test.examples(text);
        tables(text, test.called);
        refusals(text);
        hold(text.contains("\n.ci/run\n"), "README.md does not say how to run the tests");
        System.out.println(wrong == 0 ? "README.md is as the class is" : wrong + " things are not as README.md says");
        if (wrong != 0) {
            System.exit(1);
        }
    }
}
