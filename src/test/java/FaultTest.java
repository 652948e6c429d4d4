import java.util.ArrayDeque;
import java.util.ArrayList;
import java.util.Deque;
import java.util.HashSet;
import java.util.List;
import java.util.Set;

/**
 * The fault of a text by its definition, for all short texts over a small alphabet. What can still come behind a
 * beginning of a text is kept as a set of rests, each a sequence of signs and of names of the grammar:
 * B a block, L one inside a loop, X and Y an else block or nothing (Y inside a loop), E an expression, V a variable,
 * D a digit, O an operator.
 */
public final class FaultTest {
    private static final String ALPHABET = "a1+=;#<!?*{} z";
    private static final int LONGEST = 6;
    private static int texts;
    private static int wrong;

    private FaultTest() {
    }

    /** What the first name of a rest can stand for. */
    private static List<String> meanings(char name) {
        switch (name) {
            case 'B': return List.of("", "V=E;B", "#E;B", "<E;B", "?E{B}XB", "*E{L}B");
            case 'L': return List.of("", "V=E;L", "#E;L", "<E;L", "!;L", "^;L", "?E{L}YL", "*E{L}L");
            case 'X': return List.of("", "{B}");
            case 'Y': return List.of("", "{L}");
            case 'E': return List.of("D", "V", "OEE");
            default: return List.of();
        }
    }

    private static Set<String> spelledOut(Set<String> rests) {
        Set<String> all = new HashSet<>(rests);
        Deque<String> open = new ArrayDeque<>(rests);
        while (!open.isEmpty()) {
            String rest = open.pop();
            for (String meaning : rest.isEmpty() ? new ArrayList<String>() : meanings(rest.charAt(0))) {
                String longer = meaning + rest.substring(1);
                if (all.add(longer)) {
                    open.push(longer);
                }
            }
        }
        return all;
    }

    private static boolean fits(char name, char c) {
        switch (name) {
            case 'V': return c >= 'a' && c <= 'h';
            case 'D': return c >= '0' && c <= '9';
            case 'O': return "+-*/%<=".indexOf(c) >= 0;
            default: return name == c;
        }
    }

    private static Set<String> behind(Set<String> rests, char c) {
        if (c == ' ') {
            return rests;
        }
        Set<String> next = new HashSet<>();
        for (String rest : rests) {
            if (!rest.isEmpty() && fits(rest.charAt(0), c)) {
                next.add(rest.substring(1));
            }
        }
        return spelledOut(next);
    }

    private static void due(String text, boolean isProgram, int fault) {
        SpanLifts x = new SpanLifts();
        for (char c : text.toCharArray()) {
            x.type(c);
        }
        int got = x.reads();
        texts++;
        if (isProgram ? got < 0 : got != -10 - fault) {
            wrong++;
            System.out.println("\"" + text + "\": reads answered " + got + ", due is " + (isProgram ? "a program" : "" + (-10 - fault)));
        }
    }

    private static void search(String text, Set<String> rests) {
        due(text, rests.contains(""), text.length());
        if (text.length() == LONGEST) {
            return;
        }
        for (char c : ALPHABET.toCharArray()) {
            Set<String> next = behind(rests, c);
            if (!next.isEmpty()) {
                search(text + c, next);
                continue;
            }
            // What comes behind the fault does not matter.
            due(text + c, false, text.length());
            due(text + c + "a=1;", false, text.length());
        }
    }

    public static void main(String[] args) {
        search("", spelledOut(Set.of("B")));
        System.out.println(texts + " texts, " + wrong + " answers not as due");
        if (wrong != 0 || texts < 100000) {
            System.exit(1);
        }
    }
}
