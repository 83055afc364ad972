import java.lang.reflect.Method;
import java.lang.reflect.Modifier;
import java.util.ArrayList;
import java.util.Arrays;
import java.util.HashMap;
import java.util.List;
import java.util.Map;

/**
 * A run of calls on one new object. Each call is kept, so that a fault can be told with all that came ahead of
 * it, and so that the same run can be made again: with a refused call and without it, to see that it changes
 * nothing.
 */
final class Run {
    /** What an object answers behind its 512th call is free, so no run goes there. */
    private static final int MOST_CALLS = 512;
    private static final Map<String, Method> FACE = face();

    private final UnitAtlas atlas = new UnitAtlas();
    private final List<Call> calls = new ArrayList<>();

    /** A call by its name and numbers. */
    private record Call(String name, Object[] arguments) {
        String told() {
            String row = Arrays.toString(arguments);
            return name + "(" + row.substring(1, row.length() - 1) + ")";
        }
    }

    private static Map<String, Method> face() {
        Map<String, Method> face = new HashMap<>();
        for (Method m : UnitAtlas.class.getDeclaredMethods()) {
            if (Modifier.isPublic(m.getModifiers())) {
                face.put(m.getName(), m);
            }
        }
        return face;
    }

    private static Object[] fitted(Method method, Object[] arguments) {
        Class<?>[] types = method.getParameterTypes();
        Object[] fit = new Object[arguments.length];
        for (int a = 0; a < fit.length; a++) {
            Object given = arguments[a] instanceof Character c ? Integer.valueOf(c) : arguments[a];
            fit[a] = types[a] == long.class ? Long.valueOf(((Number) given).longValue()) : given;
        }
        return fit;
    }

    private int make(Call call) {
        if (calls.size() >= MOST_CALLS) {
            throw new IllegalStateException("this test makes more than 512 calls on one object");
        }
        Method method = FACE.get(call.name);
        calls.add(call);
        try {
            return (Integer) method.invoke(atlas, fitted(method, call.arguments));
        } catch (ReflectiveOperationException fault) {
            throw new AssertionError(call.told() + " did not answer: " + fault.getCause() + behind(), fault);
        }
    }

    private String behind() {
        StringBuilder told = new StringBuilder("\n    the run of calls:");
        for (Call call : calls) {
            told.append(' ').append(call.told());
        }
        return told.toString();
    }

    int call(String name, Object... arguments) {
        return make(new Call(name, arguments));
    }

    int room() {
        return MOST_CALLS - calls.size();
    }

    /** Makes a call that has to answer so. */
    Run due(int want, String name, Object... arguments) {
        Call call = new Call(name, arguments);
        int got = make(call);
        if (got != want) {
            throw new AssertionError(call.told() + " answered " + got + ", due is " + want + behind());
        }
        return this;
    }

    /** Makes a call that has to answer so and to change nothing that can be seen. */
    Run refused(int want, String name, Object... arguments) {
        changesNothing(new Call(name, arguments));
        return due(want, name, arguments);
    }

    /** Behind this call and undo() all is as it was. */
    Run takenBack(String name, Object... arguments) {
        changesNothing(new Call(name, arguments), new Call("undo", new Object[0]));
        return this;
    }

    /** BAD for every number that no TEXT has, at this argument of a call that is fine without that. */
    Run noSuchText(int argument, String name, Object... arguments) {
        int made = call("count", 0);
        for (int t : new int[] {-1, made, made + 1, 40, Integer.MIN_VALUE, Integer.MAX_VALUE}) {
            Object[] other = arguments.clone();
            other[argument] = t;
            refused(UnitAtlas.BAD, name, other);
        }
        return this;
    }

    /** An answer for all these numbers at one argument, which changes nothing. */
    Run refusedFor(int want, int argument, int[] numbers, String name, Object... arguments) {
        for (int number : numbers) {
            Object[] other = arguments.clone();
            other[argument] = number;
            refused(want, name, other);
        }
        return this;
    }

    private Run again() {
        Run run = new Run();
        for (Call call : calls) {
            run.make(call);
        }
        return run;
    }

    private void changesNothing(Call... more) {
        int most = MOST_CALLS - calls.size() - more.length;
        for (Seen part : Seen.values()) {
            Run with = again();
            for (Call call : more) {
                with.make(call);
            }
            List<String> before = part.of(again(), most);
            List<String> after = part.of(with, most);
            if (!before.equals(after)) {
                throw new AssertionError(more[0].told() + " changes what is seen:" + firstUnlike(before, after) + behind());
            }
        }
    }

    private static String firstUnlike(List<String> before, List<String> after) {
        for (int n = 0; n < before.size() && n < after.size(); n++) {
            if (!before.get(n).equals(after.get(n))) {
                return " without it " + before.get(n) + ", with it " + after.get(n);
            }
        }
        return " one has more than the other";
    }

    /** A new TEXT of these UNITS, four a call. */
    Run text(String units) {
        int t = call("text");
        for (int i = 0; i < units.length(); i += 4) {
            int n = Math.min(4, units.length() - i);
            long w = 0;
            for (int k = 0; k < n; k++) {
                w = w << 16 | units.charAt(i + k);
            }
            due(i + n, "units", t, n, w);
        }
        return this;
    }

    /** A new TEXT of n like UNITS. */
    Run alike(int u, int n) {
        int t = call("text");
        for (int size = 0; size < n; ) {
            size = size == 0 ? call("units", t, 1, u) : call("append", t, t, 0, Math.min(size, n - size));
        }
        return this;
    }

    /** A new TEXT of n UNITS from first on, each one more than the one ahead of it. */
    Run rising(int first, int n) {
        return text(row(first, n));
    }

    static String row(int first, int n) {
        StringBuilder units = new StringBuilder();
        for (int k = 0; k < n; k++) {
            units.append((char) (first + k));
        }
        return units.toString();
    }

    /** TEXTS of no UNITS, until there are so many. */
    Run until(int texts) {
        for (int made = call("count", 0); made < texts; made++) {
            due(made, "text");
        }
        return this;
    }

    /** TEXT t has just these UNITS. */
    Run holds(int t, String units) {
        due(units.length(), "length", t);
        for (int i = 0; i < units.length(); i++) {
            due(units.charAt(i), "at", t, i);
        }
        return this;
    }
}
