import java.util.ArrayList;
import java.util.Arrays;
import java.util.HashMap;
import java.util.HashSet;
import java.util.LinkedHashSet;
import java.util.List;
import java.util.Map;
import java.util.Set;

/**
 * A second reading of the document, for comparison: trees instead of rows, recursion instead of chains,
 * and a search for single paths instead of sets that flow.
 */
final class Model {
    static final int NONE = -1, BAD = -2, NO = -3, FULL = -4;

    static final class Fault extends RuntimeException {
        final int at;
        Fault(int at) { super(null, null, false, false); this.at = at; }
    }

    static final class Node {
        int kind, var = NONE;
        String expr = "";
        List<Node> yes, no;
        Method method;
        List<Integer> ins, outs;
        List<Node> replaced;

        Node copy(Map<Method, Method> methods) {
            Node n = new Node();
            n.kind = kind; n.var = var; n.expr = expr;
            n.yes = copyAll(yes, methods); n.no = copyAll(no, methods);
            n.method = method == null ? null : methods.getOrDefault(method, method);
            n.ins = ins; n.outs = outs;
            n.replaced = copyAll(replaced, methods);
            return n;
        }
    }

    static List<Node> copyAll(List<Node> block, Map<Method, Method> methods) {
        if (block == null) return null;
        List<Node> copy = new ArrayList<>();
        for (Node n : block) copy.add(n.copy(methods));
        return copy;
    }

    static final class Method {
        List<Node> body;
        List<Integer> ins, outs;
        int exits;
    }

    static final class State {
        List<Node> root = new ArrayList<>();
        List<Method> methods = new ArrayList<>();
    }

    /** A statement with where it stands. */
    static final class Place {
        Node node, parent;
        List<Node> block;
        int index, number;
    }

    // ---- the state of the object

    final StringBuilder text = new StringBuilder();
    State state = new State();
    final List<State> stored = new ArrayList<>();
    final int[] errors = new int[3];
    int ranValue, ranSteps, ranSet;
    List<Integer> ranPrints = new ArrayList<>();

    int error(int e) { errors[-e - 2]++; return e; }

    State copyState() {
        State s = new State();
        Map<Method, Method> methods = new HashMap<>();
        for (Method m : state.methods) {
            Method c = new Method();
            c.ins = m.ins; c.outs = m.outs; c.exits = m.exits;
            c.body = copyAll(m.body, methods);
            methods.put(m, c);
            s.methods.add(c);
        }
        s.root = copyAll(state.root, methods);
        return s;
    }

    void store() {
        stored.add(copyState());
        if (stored.size() > 6) stored.remove(0);
    }

    // ---- programs

    int type(int c) {
        if (c < 0 || c > 127) return error(BAD);
        if (text.length() == 160) return error(FULL);
        text.append((char) c);
        return text.length();
    }

    int clear() { int n = text.length(); text.setLength(0); return n; }

    int pos, made;

    int reads() {
        pos = 0; made = 0;
        List<Node> root;
        try {
            root = block(0);
            if (peek() != 0) throw new Fault(pos);
        } catch (Fault f) {
            return -10 - f.at;
        }
        store();
        state = new State();
        state.root = root;
        return made;
    }

    char peek() {
        while (pos < text.length() && text.charAt(pos) == ' ') pos++;
        // byte 0 can stand nowhere, but is not the end
        if (pos == text.length()) return 0;
        return text.charAt(pos) == 0 ? 1 : text.charAt(pos);
    }

    void need(char c) {
        if (peek() != c) throw new Fault(pos);
        pos++;
    }

    List<Node> block(int loops) {
        List<Node> list = new ArrayList<>();
        while (peek() != 0 && peek() != '}') list.add(parseStatement(loops));
        return list;
    }

    Node parseStatement(int loops) {
        char c = peek();
        int kind = c >= 'a' && c <= 'h' ? 0 : "\0#<!^?*".indexOf(c);
        if (kind < 0 || made == 40) throw new Fault(pos);
        if ((kind == 3 || kind == 4) && loops == 0) throw new Fault(pos);
        made++;
        pos++;
        Node n = new Node();
        n.kind = kind;
        if (kind == 0) { n.var = c - 'a'; need('='); }
        if (kind != 3 && kind != 4) {
            StringBuilder e = new StringBuilder();
            parseExpression(e);
            n.expr = e.toString();
        }
        if (kind < 5) { need(';'); return n; }
        need('{');
        n.yes = block(kind == 6 ? loops + 1 : loops);
        need('}');
        if (kind == 5 && peek() == '{') {
            pos++;
            n.no = block(loops);
            need('}');
        }
        return n;
    }

    void parseExpression(StringBuilder e) {
        char c = peek();
        boolean operator = "+-*/%<=".indexOf(c) >= 0;
        boolean operand = c >= '0' && c <= '9' || c >= 'a' && c <= 'h';
        if (!operator && !operand || e.length() == 12) throw new Fault(pos);
        e.append(c);
        pos++;
        if (operator) { parseExpression(e); parseExpression(e); }
    }

    // ---- statements

    List<Place> places() {
        List<Place> all = new ArrayList<>();
        collect(state.root, null, all);
        return all;
    }

    static void collect(List<Node> block, Node parent, List<Place> all) {
        if (block == null) return;
        for (int i = 0; i < block.size(); i++) {
            Place p = new Place();
            p.node = block.get(i); p.parent = parent; p.block = block; p.index = i; p.number = all.size();
            all.add(p);
            collect(p.node.yes, p.node, all);
            collect(p.node.no, p.node, all);
        }
    }

    static int sizeOf(List<Node> block) {
        List<Place> all = new ArrayList<>();
        collect(block, null, all);
        return all.size();
    }

    int statement(int k, int what) {
        List<Place> all = places();
        if (k < 0 || k >= all.size() || what < 0 || what > 6) return error(BAD);
        Place p = all.get(k);
        switch (what) {
            case 0: return p.node.kind;
            case 1:
                for (Place q : all) if (q.node == p.parent) return q.number;
                return NONE;
            case 2: return sizeOf(p.node.yes) + sizeOf(p.node.no);
            case 3: return p.index;
            case 4: return p.parent != null && p.parent.no == p.block ? 1 : 0;
            case 5: return p.node.var;
            default: return p.node.method == null ? NONE : state.methods.indexOf(p.node.method);
        }
    }

    static String signs(Node n) {
        if (n.kind != 7) return n.expr;
        StringBuilder s = new StringBuilder();
        for (int v : n.ins) s.append((char) ('a' + v));
        s.append('>');
        for (int v : n.outs) s.append((char) ('a' + v));
        return s.toString();
    }

    int sign(int k, int i) {
        List<Place> all = places();
        if (k < 0 || k >= all.size() || i < 0) return error(BAD);
        String s = signs(all.get(k).node);
        return i < s.length() ? s.charAt(i) : NONE;
    }

    // ---- runs

    static final class Failure extends RuntimeException {
        final int number;
        Failure(int number) { super(null, null, false, false); this.number = number; }
    }

    int runs(int a, int b) {
        Integer[] vars = new Integer[8];
        vars[0] = a; vars[1] = b;
        ranValue = 0; ranSteps = 0; ranPrints = new ArrayList<>();
        int answer;
        try {
            answer = execute(state.root, vars) == 8 ? 1 : 0;
        } catch (Failure f) {
            answer = 1 + f.number;
        }
        if (answer != 1) ranValue = 0;
        ranSet = 0;
        for (int v = 0; v < 8; v++) if (vars[v] != null) ranSet |= 1 << v;
        return answer;
    }

    /** Answers by which exit the block was left. */
    int execute(List<Node> block, Integer[] vars) {
        for (Node n : block) {
            int exit = execute(n, vars);
            if (exit != 1) return exit;
        }
        return 1;
    }

    int execute(Node n, Integer[] vars) {
        if (n.kind == 7) return call(n, vars);
        if (n.kind == 6) {
            while (true) {
                count();
                if (value(n.expr, vars) == 0) return 1;
                int exit = execute(n.yes, vars);
                if (exit == 2) return 1;
                if (exit == 8) return 8;
            }
        }
        count();
        switch (n.kind) {
            case 0: vars[n.var] = value(n.expr, vars); return 1;
            case 1: ranPrints.add(value(n.expr, vars)); return 1;
            case 2: ranValue = value(n.expr, vars); return 8;
            case 3: return 2;
            case 4: return 4;
            default:
                if (value(n.expr, vars) != 0) return execute(n.yes, vars);
                return n.no == null ? 1 : execute(n.no, vars);
        }
    }

    int call(Node n, Integer[] vars) {
        Integer[] own = new Integer[8];
        for (int i = 0; i < n.ins.size(); i++) {
            if (vars[n.ins.get(i)] == null) throw new IllegalStateException("a call uses a variable that is not set");
            own[n.method.ins.get(i)] = vars[n.ins.get(i)];
        }
        int exit = execute(n.method.body, own);
        for (int i = 0; i < n.outs.size(); i++) {
            Integer out = own[n.method.outs.get(i)];
            if (out != null) vars[n.outs.get(i)] = out;
        }
        return exit;
    }

    void count() {
        if (ranSteps == 400) throw new Failure(3);
        ranSteps++;
    }

    int evalAt;

    int value(String e, Integer[] vars) {
        evalAt = 0;
        return part(e, vars);
    }

    int part(String e, Integer[] vars) {
        char c = e.charAt(evalAt++);
        if (c >= '0' && c <= '9') return c - '0';
        if (c >= 'a' && c <= 'h') {
            if (vars[c - 'a'] == null) throw new Failure(2);
            return vars[c - 'a'];
        }
        int x = part(e, vars);
        int y = part(e, vars);
        if ((c == '/' || c == '%') && y == 0) throw new Failure(1);
        switch (c) {
            case '+': return x + y;
            case '-': return x - y;
            case '*': return x * y;
            case '/': return x / y;
            case '%': return x % y;
            case '<': return x < y ? 1 : 0;
            default: return x == y ? 1 : 0;
        }
    }

    int ran(int what, int k) {
        if (what < 0 || what > 4 || k < 0) return error(BAD);
        switch (what) {
            case 0: return ranValue;
            case 1: return ranSteps;
            case 2: return ranPrints.size();
            case 3: return k < ranPrints.size() ? ranPrints.get(k) : 0;
            default: return ranSet;
        }
    }

    // ---- paths

    /** A point of a path: reads, then sets, then goes on with one of the next. */
    static final class Point {
        final Set<Integer> reads = new HashSet<>(), sets = new HashSet<>();
        final List<Point> next = new ArrayList<>();
    }

    /** The points of a sequence of statements. */
    static final class Graph {
        final Point end = new Point(), brk = new Point(), cont = new Point(), ret = new Point();
        final Map<Node, Point> before = new HashMap<>(), behind = new HashMap<>();
        final Map<Node, Point> breakTo = new HashMap<>(), continueTo = new HashMap<>();
        final Point begin;

        Graph(List<Node> block) { begin = build(block, end, brk, cont); }

        Point exit(int e) { return e == 1 ? end : e == 2 ? brk : e == 4 ? cont : ret; }

        Point build(List<Node> block, Point after, Point b, Point c) {
            Point first = after;
            for (int i = block.size() - 1; i >= 0; i--) first = build(block.get(i), first, b, c);
            return first;
        }

        Point build(Node n, Point after, Point b, Point c) {
            Point p = new Point();
            before.put(n, p);
            behind.put(n, after);
            breakTo.put(n, b);
            continueTo.put(n, c);
            for (char s : n.expr.toCharArray()) if (s >= 'a' && s <= 'h') p.reads.add(s - 'a');
            switch (n.kind) {
                case 0: p.sets.add(n.var); p.next.add(after); break;
                case 1: p.next.add(after); break;
                case 2: p.next.add(ret); break;
                case 3: p.next.add(b); break;
                case 4: p.next.add(c); break;
                case 5:
                    p.next.add(build(n.yes, after, b, c));
                    p.next.add(n.no == null ? after : build(n.no, after, b, c));
                    break;
                case 6:
                    p.next.add(build(n.yes, p, after, p));
                    p.next.add(after);
                    break;
                default: buildCall(n, p, after, b, c);
            }
            return p;
        }

        void buildCall(Node n, Point p, Point after, Point b, Point c) {
            p.reads.addAll(n.ins);
            Graph inner = new Graph(n.method.body);
            for (int e = 1; e <= 8; e *= 2) {
                if ((n.method.exits & e) == 0) continue;
                Point left = new Point();
                for (int i = 0; i < n.outs.size(); i++) {
                    int out = n.method.outs.get(i);
                    boolean sure = n.method.ins.contains(out) || !comesWithout(inner.begin, inner.exit(e), out);
                    if (sure) left.sets.add(n.outs.get(i));
                }
                left.next.add(e == 1 ? after : e == 2 ? b : e == 4 ? c : ret);
                p.next.add(left);
            }
        }
    }

    /** Whether a path from one point comes to another without setting v (NONE: at all). */
    static boolean comesWithout(Point from, Point to, int v) {
        Set<Point> seen = new HashSet<>();
        List<Point> open = new ArrayList<>(List.of(from));
        while (!open.isEmpty()) {
            Point p = open.remove(open.size() - 1);
            if (p == to) return true;
            if (!seen.add(p) || p.sets.contains(v)) continue;
            open.addAll(p.next);
        }
        return false;
    }

    /** Whether a path from a point reads v without setting it before. */
    static boolean readsFirst(Point from, int v) {
        Set<Point> seen = new HashSet<>();
        List<Point> open = new ArrayList<>(List.of(from));
        while (!open.isEmpty()) {
            Point p = open.remove(open.size() - 1);
            if (!seen.add(p)) continue;
            if (p.reads.contains(v)) return true;
            if (!p.sets.contains(v)) open.addAll(p.next);
        }
        return false;
    }

    // ---- spans

    final class Facts {
        Place first;
        int from, to;
        List<Node> nodes;
        int exits, barred, inSet, outSet;
        boolean[][] live = new boolean[9][8];
        List<Integer> ins = new ArrayList<>(), outs = new ArrayList<>();
    }

    Facts facts(int i, int j) {
        List<Place> all = places();
        if (i < 0 || j < 0 || i >= all.size() || j >= all.size()) return null;
        Place p = all.get(i), q = all.get(j);
        if (p.block != q.block || q.index < p.index) return null;
        Facts f = new Facts();
        f.first = p;
        f.nodes = new ArrayList<>(p.block.subList(p.index, q.index + 1));
        f.from = i;
        f.to = i + sizeOf(f.nodes) - 1;
        Graph whole = new Graph(state.root);
        Graph own = new Graph(f.nodes);
        for (int e = 1; e <= 8; e *= 2) {
            if (!comesWithout(own.begin, own.exit(e), NONE)) continue;
            f.exits |= e;
            Point there = e == 1 ? whole.behind.get(q.node) : e == 2 ? whole.breakTo.get(p.node)
                : e == 4 ? whole.continueTo.get(p.node) : whole.ret;
            for (int v = 0; v < 8; v++) f.live[e][v] = readsFirst(there, v);
        }
        Set<Integer> order = new LinkedHashSet<>(), changed = new HashSet<>();
        boolean call = false;
        List<Place> parts = new ArrayList<>();
        collect(f.nodes, null, parts);
        for (Place x : parts) {
            for (char s : signs(x.node).toCharArray()) if (s >= 'a' && s <= 'h') order.add(s - 'a');
            if (x.node.kind == 0) { order.add(x.node.var); changed.add(x.node.var); }
            if (x.node.kind == 7) { call = true; changed.addAll(x.node.outs); }
        }
        boolean unsure = false;
        for (int v : order) {
            boolean out = false, in = readsFirst(own.begin, v);
            for (int e = 1; e <= 8; e *= 2) out |= changed.contains(v) && f.live[e][v];
            for (int e = 1; e <= 8; e *= 2) {
                in |= out && (f.exits & e) != 0 && f.live[e][v] && comesWithout(own.begin, own.exit(e), v);
            }
            if (out) { f.outs.add(v); f.outSet |= 1 << v; }
            if (in) { f.ins.add(v); f.inSet |= 1 << v; }
            unsure |= in && v > 1 && comesWithout(whole.begin, whole.before.get(p.node), v);
        }
        f.barred = call ? 1 : f.ins.size() > 4 || f.outs.size() > 3 ? 2 : unsure ? 3 : 0;
        return f;
    }

    int span(int i, int j, int what) {
        if (what < 0 || what > 3) return error(BAD);
        Facts f = facts(i, j);
        if (f == null) return error(NO);
        return what == 0 ? f.exits : what == 1 ? f.inSet : what == 2 ? f.outSet : f.barred;
    }

    int hands(int i, int j, int what, int k) {
        if (what < 0 || what > 1 || k < 0) return error(BAD);
        Facts f = facts(i, j);
        if (f == null) return error(NO);
        List<Integer> list = what == 0 ? f.ins : f.outs;
        return k < list.size() ? list.get(k) : NONE;
    }

    int live(int i, int j, int exit, int v) {
        if (!List.of(1, 2, 4, 8).contains(exit) || v < 0 || v > 7) return error(BAD);
        Facts f = facts(i, j);
        if (f == null || (f.exits & exit) == 0) return error(NO);
        return f.live[exit][v] ? 1 : 0;
    }

    int sure(int k, int v) {
        List<Place> all = places();
        if (k < 0 || k >= all.size() || v < 0 || v > 7) return error(BAD);
        if (v < 2) return 1;
        Graph whole = new Graph(state.root);
        return comesWithout(whole.begin, whole.before.get(all.get(k).node), v) ? 0 : 1;
    }

    // ---- alike

    static boolean same(List<Node> x, List<Node> y, int[] map) {
        if (x == null || y == null) return x == y;
        if (x.size() != y.size()) return false;
        for (int i = 0; i < x.size(); i++) if (!same(x.get(i), y.get(i), map)) return false;
        return true;
    }

    static boolean same(Node x, Node y, int[] map) {
        if (x.kind != y.kind || x.kind == 7 || x.expr.length() != y.expr.length()) return false;
        for (int i = 0; i < x.expr.length(); i++) {
            char c = x.expr.charAt(i), d = y.expr.charAt(i);
            boolean letters = Character.isLetter(c) && Character.isLetter(d);
            if (letters ? !bind(c - 'a', d - 'a', map) : c != d) return false;
        }
        if (x.kind == 0 && !bind(x.var, y.var, map)) return false;
        return same(x.yes, y.yes, map) && same(x.no, y.no, map);
    }

    static boolean bind(int v, int w, int[] map) {
        for (int u = 0; u < 8; u++) {
            if (u != v && map[u] == w) return false;
        }
        if (map[v] == NONE) map[v] = w;
        return map[v] == w;
    }

    final class Twin {
        Facts facts;
        int[] map;
    }

    List<Twin> twins(Facts f) {
        List<Twin> taken = new ArrayList<>();
        Set<Integer> used = new HashSet<>();
        for (int k = f.from; k <= f.to; k++) used.add(k);
        List<Place> all = places();
        for (Place p : all) {
            if (p.index + f.nodes.size() > p.block.size()) continue;
            List<Node> nodes = p.block.subList(p.index, p.index + f.nodes.size());
            int[] map = new int[8];
            Arrays.fill(map, NONE);
            if (!same(f.nodes, nodes, map)) continue;
            Place last = null;
            for (Place q : all) if (q.node == nodes.get(nodes.size() - 1)) last = q;
            Facts g = facts(p.number, last.number);
            boolean free = true;
            for (int k = g.from; k <= g.to; k++) free &= !used.contains(k);
            if (!free || g.barred != 0 || g.exits != f.exits) continue;
            if (!mapped(f.ins, map).equals(g.ins) || !mapped(f.outs, map).equals(g.outs)) continue;
            for (int k = g.from; k <= g.to; k++) used.add(k);
            Twin t = new Twin();
            t.facts = g;
            t.map = map;
            taken.add(t);
        }
        return taken;
    }

    static List<Integer> mapped(List<Integer> list, int[] map) {
        List<Integer> result = new ArrayList<>();
        for (int v : list) result.add(map[v]);
        return result;
    }

    int alike(int i, int j, int what, int k) {
        if (what < 0 || what > 2 || k < 0 || what == 2 && k > 7) return error(BAD);
        Facts f = facts(i, j);
        if (f == null) return error(NO);
        List<Twin> t = twins(f);
        if (what == 0) return t.size();
        if (what == 1) return k < t.size() ? t.get(k).facts.from : NONE;
        return t.isEmpty() ? NONE : t.get(0).map[k];
    }

    int lifts(int i, int j, int all) {
        if (all < 0 || all > 1) return error(BAD);
        Facts f = facts(i, j);
        if (f == null || f.barred != 0) return error(NO);
        if (state.methods.size() == 3) return error(FULL);
        List<Facts> spans = new ArrayList<>(List.of(f));
        if (all == 1) for (Twin t : twins(f)) spans.add(t.facts);
        store();
        Method m = new Method();
        m.body = copyAll(f.nodes, Map.of());
        m.ins = f.ins; m.outs = f.outs; m.exits = f.exits;
        for (Facts g : spans) {
            Node call = new Node();
            call.kind = 7; call.method = m; call.ins = g.ins; call.outs = g.outs;
            call.replaced = g.nodes;
            List<Node> block = g.first.block;
            int at = block.indexOf(g.nodes.get(0));
            for (int n = 0; n < g.nodes.size(); n++) block.remove(at);
            block.add(at, call);
        }
        state.methods.add(m);
        return spans.size();
    }

    // ---- methods

    int callsOf(Method m) {
        int n = 0;
        for (Place p : places()) if (p.node.method == m) n++;
        return n;
    }

    /** The end of the expression that begins at a position; adds the divisors that are no digit from 1 to 9. */
    static int divisors(String e, int at, List<String> risky) {
        char c = e.charAt(at);
        if ("+-*/%<=".indexOf(c) < 0) return at + 1;
        int second = divisors(e, at + 1, risky);
        int end = divisors(e, second, risky);
        String operand = e.substring(second, end);
        if ((c == '/' || c == '%') && !operand.matches("[1-9]")) risky.add(operand);
        return end;
    }

    int method(int m, int what) {
        if (m < 0 || m >= state.methods.size() || what < 0 || what > 5) return error(BAD);
        Method x = state.methods.get(m);
        switch (what) {
            case 0: return x.exits;
            case 1: return x.ins.size();
            case 2: return x.outs.size();
            case 3: return sizeOf(x.body);
            case 4: return callsOf(x);
            default:
                List<Place> all = new ArrayList<>();
                collect(x.body, null, all);
                List<String> risky = new ArrayList<>();
                for (Place p : all) if (!p.node.expr.isEmpty()) divisors(p.node.expr, 0, risky);
                return risky.isEmpty() ? 0 : 1;
        }
    }

    int formal(int m, int what, int k) {
        if (m < 0 || m >= state.methods.size() || what < 0 || what > 1 || k < 0) return error(BAD);
        List<Integer> list = what == 0 ? state.methods.get(m).ins : state.methods.get(m).outs;
        return k < list.size() ? list.get(k) : NONE;
    }

    int settles(int m) {
        if (m < 0 || m >= state.methods.size()) return error(BAD);
        store();
        Method x = state.methods.get(m);
        int n = callsOf(x);
        inline(state.root, x);
        state.methods.remove(m);
        return n;
    }

    void inline(List<Node> block, Method x) {
        if (block == null) return;
        for (int i = 0; i < block.size(); i++) {
            Node n = block.get(i);
            if (n.method == x) {
                block.remove(i);
                block.addAll(i, n.replaced);
                i += n.replaced.size() - 1;
            } else {
                inline(n.yes, x);
                inline(n.no, x);
            }
        }
    }

    // ---- what is told

    int back() {
        if (stored.isEmpty()) return error(NO);
        state = stored.remove(stored.size() - 1);
        return stored.size();
    }

    int told(int what) {
        if (what < 0 || what > 6) return error(BAD);
        switch (what) {
            case 3: return text.length();
            case 4: return places().size();
            case 5: return state.methods.size();
            case 6: return stored.size();
            default: return errors[what];
        }
    }

    long digest() {
        long h = 2251;
        for (int w = 0; w <= 6; w++) h = 31 * h + told(w);
        int size = places().size();
        for (int k = 0; k < size; k++) {
            for (int w = 0; w <= 6; w++) h = 31 * h + statement(k, w);
            for (int i = 0; sign(k, i) != NONE; i++) h = 31 * h + sign(k, i);
        }
        for (int m = 0; m < state.methods.size(); m++) {
            for (int w = 0; w <= 5; w++) h = 31 * h + method(m, w);
        }
        return h;
    }
}
