import java.util.Random;

/** Makes programs by chance, always the same ones for the same seed. */
final class Programs {
    private final Random random;
    private int variables;
    private int left;
    private boolean tight;

    Programs(long seed) { random = new Random(seed); }

    int below(int n) { return random.nextInt(n); }

    boolean chance(int percent) { return below(100) < percent; }

    /** A text of at most 160 bytes, mostly without a fault. */
    String text() {
        variables = 2 + below(7);
        tight = chance(30);
        StringBuilder s = new StringBuilder();
        for (int v = 2; v < variables; v++) {
            if (chance(55)) s.append((char) ('a' + v)).append('=').append(operand()).append(';');
        }
        left = 10 + below(tight ? 145 : 120);
        while (left > 0) {
            String part = chance(40) ? statement(0, 0) : block(0, 0);
            s.append(part);
            if (chance(50)) s.append(renamed(part));
            if (chance(20)) s.append(renamed(part));
        }
        if (chance(40)) s.append('#').append(expression(3)).append(';');
        if (chance(30)) s.append('<').append(expression(3)).append(';');
        if (chance(8)) spoil(s);
        if (chance(8)) for (int n = below(9); n >= 0; n--) s.insert(below(s.length() + 1), ' ');
        return whole(s);
    }

    /** Cuts a text behind a statement of the program, if it is too long. */
    private String whole(StringBuilder s) {
        if (s.length() <= 160) return s.toString();
        if (chance(5)) return s.substring(0, 160);
        int depth = 0, cut = 0;
        for (int i = 0; i < 160; i++) {
            char c = s.charAt(i);
            if (c == '{') depth++;
            if (c == '}') depth--;
            boolean ends = c == ';' || c == '}';
            if (ends && depth == 0 && !(i + 1 < s.length() && s.charAt(i + 1) == '{')) cut = i + 1;
        }
        return s.substring(0, cut);
    }

    private void spoil(StringBuilder s) {
        if (s.length() == 0) return;
        int at = below(s.length());
        if (chance(30)) s.deleteCharAt(at);
        else if (chance(50)) s.insert(at, "abz09+-*/%<=#!^?{}; \t\0~".charAt(below(23)));
        else s.setCharAt(at, (char) below(128));
    }

    /** The same text with other variables, one to one. */
    private String renamed(String part) {
        int[] to = new int[8];
        for (int v = 0; v < 8; v++) to[v] = v;
        for (int n = chance(25) ? 0 : 1 + below(4); n > 0; n--) {
            int v = below(variables), w = below(variables), old = to[v];
            to[v] = to[w];
            to[w] = old;
        }
        StringBuilder s = new StringBuilder();
        for (char c : part.toCharArray()) s.append(c >= 'a' && c <= 'h' ? (char) ('a' + to[c - 'a']) : c);
        left -= s.length();
        return s.toString();
    }

    private String block(int depth, int loops) {
        StringBuilder s = new StringBuilder();
        for (int n = below(4); n > 0 && left > 0; n--) s.append(statement(depth, loops));
        return s.toString();
    }

    private String statement(int depth, int loops) {
        left -= 4;
        int kind = below(tight ? 40 : 24);
        if (kind < 3 && depth < 6) {
            String s = "?" + expression(3) + "{" + block(depth + 1, loops) + "}";
            return chance(45) ? s + "{" + block(depth + 1, loops) + "}" : s;
        }
        if (kind < 6 && depth < 6) return "*" + expression(3) + "{" + block(depth + 1, loops + 1) + "}";
        if (kind < 8 && loops > 0) return chance(50) ? "!;" : "^;";
        if (kind == 8) return "<" + expression(3) + ";";
        if (kind < 12) return "#" + expression(3) + ";";
        return (char) ('a' + below(variables)) + "=" + expression(3) + ";";
    }

    private String expression(int depth) {
        if (depth == 0 || chance(tight ? 85 : 55)) return operand();
        left -= 2;
        return "+-*/%<=".charAt(below(7)) + expression(depth - 1) + expression(depth - 1);
    }

    private String operand() {
        return String.valueOf(chance(30) ? (char) ('0' + below(10)) : (char) ('a' + below(variables)));
    }
}
