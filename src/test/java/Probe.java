import java.lang.reflect.InvocationTargetException;
import java.lang.reflect.Method;
import java.util.HashMap;
import java.util.Map;

/**
 * An object of the class, whose calls are given as texts, so that a complaint can show them: "span 0 1 2".
 * MIN and MAX stand for the ends of int, and a sign in quotes for its byte.
 */
final class Probe {
    private static final Map<String, Method> METHODS = new HashMap<>();

    static {
        for (Method method : SpanLifts.class.getDeclaredMethods()) {
            METHODS.put(method.getName() + "/" + method.getParameterCount(), method);
        }
    }

    private static final int MOST_CALLS = 512;

    private final SpanLifts object = new SpanLifts();
    private int calls;
    private String shown = "";

    /** A new object that has read this program. */
    static Probe of(String program) {
        Probe probe = new Probe();
        if (probe.typed(program).answer("reads") < 0) {
            Edges.complain("no program: " + program);
        }
        return probe;
    }

    Probe typed(String text) {
        object.clear();
        for (char c : text.toCharArray()) {
            object.type(c);
        }
        count(1 + text.length());
        shown = "\"" + text + "\": ";
        return this;
    }

    /** The document promises nothing beyond so many calls. */
    private void count(int more) {
        calls += more;
        if (calls > MOST_CALLS) {
            Edges.complain(shown + "the test makes too many calls of one object");
        }
    }

    long answer(String call) {
        String[] parts = call.split(" +");
        Object[] arguments = new Object[parts.length - 1];
        for (int i = 1; i < parts.length; i++) {
            arguments[i - 1] = number(parts[i]);
        }
        Method method = METHODS.get(parts[0] + "/" + arguments.length);
        if (method == null) {
            throw new IllegalArgumentException("no such call: " + call);
        }
        count(1);
        try {
            return ((Number) method.invoke(object, arguments)).longValue();
        } catch (InvocationTargetException thrown) {
            Edges.complain(shown + call + " threw " + thrown.getCause());
            return Long.MIN_VALUE;
        } catch (IllegalAccessException hidden) {
            throw new IllegalArgumentException("not public: " + call);
        }
    }

    private static int number(String word) {
        if (word.length() == 3 && word.charAt(0) == '\'') {
            return word.charAt(1);
        }
        switch (word) {
            case "MIN": return Integer.MIN_VALUE;
            case "MAX": return Integer.MAX_VALUE;
            default: return Integer.parseInt(word);
        }
    }

    Probe due(String call, long want) {
        Edges.due(shown + call, answer(call), want);
        return this;
    }

    /** The answers for the last argument 0, 1, 2 and so on. */
    Probe dues(String call, long... wants) {
        for (int i = 0; i < wants.length; i++) {
            due(call + " " + i, wants[i]);
        }
        return this;
    }

    /** All the symbols of a statement, and no more. */
    Probe signs(int k, String symbols) {
        for (int i = 0; i < symbols.length(); i++) {
            due("sign " + k + " " + i, symbols.charAt(i));
        }
        return due("sign " + k + " " + symbols.length(), Edges.NONE);
    }

    /** How often BAD, NO and FULL have been counted. */
    Probe errors(int bad, int no, int full) {
        return dues("told", bad, no, full);
    }

    /** The variables of this list, and no more, as the answers of hands or formal. */
    Probe listed(String call, String letters) {
        for (int i = 0; i < letters.length(); i++) {
            due(call + " " + i, letters.charAt(i) - 'a');
        }
        return due(call + " " + letters.length(), Edges.NONE);
    }

    /** Reads a text, which must be a program with so many statements. */
    Probe takes(String text, int statements) {
        return typed(text).due("reads", statements);
    }

    /** Reads a text, which must have this fault. */
    Probe fault(String text, int at) {
        return typed(text).due("reads", -10 - at);
    }
}
