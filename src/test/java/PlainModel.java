import java.math.BigInteger;
import java.util.ArrayList;
import java.util.List;

/**
 * The document once more, written as another program would be: trees in place of code, exact numbers, and no
 * state of a world but the list of what was done to it. Every VALUE is found by playing the world from step 0.
 */
final class PlainModel {
    static final int NO = Integer.MIN_VALUE;
    static final List<String> KEYS = List.of("store", "stream", "helper", "number", "table", "delay", "from", "to",
        "out", "of", "least");

    static final class Fault extends RuntimeException {
        final int kind;
        final int place;

        Fault(int kind, int place) {
            this.kind = kind;
            this.place = place;
        }
    }

    static final class Token {
        String text;
        int place;

        boolean word() {
            return !text.isEmpty() && text.charAt(0) >= 'a' && text.charAt(0) <= 'z';
        }

        boolean digits() {
            return !text.isEmpty() && text.charAt(0) >= '0' && text.charAt(0) <= '9';
        }
    }

    /** A tree of E. */
    static final class Tree {
        final String sort;
        final int number;
        final Tree left;
        final Tree right;

        Tree(String sort, int number, Tree left, Tree right) {
            this.sort = sort;
            this.number = number;
            this.left = left;
            this.right = right;
        }

        boolean names(int thing) {
            boolean here = (sort.equals("name") || sort.equals("table")) && number == thing;
            return here || left != null && left.names(thing) || right != null && right.names(thing);
        }
    }

    static final class Thing {
        String kind;
        String name;
        int n;
        int from = -9;
        int to = -9;
        Tree e;
        List<int[]> corners = new ArrayList<>();

        int kindNumber() {
            return List.of("thing", "store", "delay", "stream", "table", "number", "helper").indexOf(kind);
        }

        int nameNumber() {
            int all = 0;
            for (char c : name.toCharArray()) all = all * 27 + (c - 'a' + 1);
            return all;
        }
    }

    /** All that keep() keeps. */
    static final class State {
        List<Thing> things = new ArrayList<>();
        List<int[]> events = new ArrayList<>();
        List<int[]> changes = new ArrayList<>();
        int step = 0;

        State copy() {
            State other = new State();
            other.things = things;
            other.events = new ArrayList<>(events);
            other.changes = new ArrayList<>(changes);
            other.step = step;
            return other;
        }
    }

    /** What a play from step 0 to a last one shows. */
    static final class Play {
        List<long[]> values = new ArrayList<>();
        List<long[]> es = new ArrayList<>();
        List<long[]> flows = new ArrayList<>();
        BigInteger spilled = BigInteger.ZERO;
        BigInteger came = BigInteger.ZERO;
        BigInteger went = BigInteger.ZERO;
    }

    private final StringBuilder tape = new StringBuilder();
    private int faultKind = 0;
    private int faultPlace = 0;
    private State state = new State();
    private State kept = null;
    private List<int[]> rows = new ArrayList<>();
    private final Object[] sheets = new Object[4];
    private final Object[] shelves = new Object[4];
    private List<Integer> trace = new ArrayList<>();

    // ---- the text

    int feed(long eight, int n) {
        if (n < 1 || n > 8) return -1;
        if (tape.length() + n > 300) return -2;
        for (int k = 0; k < n; k++) tape.append((char) (eight >>> 8 * k & 255));
        return tape.length();
    }

    int read() {
        String all = tape.toString();
        tape.setLength(0);
        faultKind = 0;
        faultPlace = 0;
        try {
            List<Thing> things = new Parser(all).text();
            state = new State();
            state.things = things;
            rows = new ArrayList<>();
            return things.size();
        } catch (Fault fault) {
            faultKind = fault.kind;
            faultPlace = fault.place;
            return -100 - fault.kind;
        }
    }

    int fault(int what) {
        return what == 0 ? faultKind : what == 1 ? faultPlace : -1;
    }

    static final class Parser {
        final List<Token> tokens = new ArrayList<>();
        final List<Thing> things = new ArrayList<>();
        int at = 0;
        int open = 0;

        Parser(String all) {
            int k = 0;
            while (k < all.length()) {
                char c = all.charAt(k);
                int end = k + 1;
                if (c >= 'a' && c <= 'z') {
                    while (end < all.length() && all.charAt(end) >= 'a' && all.charAt(end) <= 'z') end++;
                } else if (c >= '0' && c <= '9') {
                    while (end < all.length() && all.charAt(end) >= '0' && all.charAt(end) <= '9') end++;
                }
                if (c != ' ') addToken(all.substring(k, end), k);
                k = end;
            }
            addToken("", all.length());
        }

        private void addToken(String text, int place) {
            Token token = new Token();
            token.text = text;
            token.place = place;
            tokens.add(token);
        }

        Token here() {
            return tokens.get(at);
        }

        Fault wrong(int kind) {
            return new Fault(kind, here().place);
        }

        boolean sees(String text) {
            return here().text.equals(text);
        }

        void want(String text) {
            if (!sees(text)) throw wrong(1);
            at++;
        }

        String wantName() {
            Token token = here();
            if (!token.word() || token.text.length() > 5 || KEYS.contains(token.text)) throw wrong(1);
            return token.text;
        }

        int numbered(String name) {
            for (int i = 0; i < things.size(); i++) if (things.get(i).name.equals(name)) return i;
            return -1;
        }

        int wantN(int low, int high) {
            if (!here().digits() || here().text.length() > 5) throw wrong(1);
            int n = Integer.parseInt(here().text);
            if (n < low || n > high) throw wrong(1);
            return n;
        }

        List<Thing> text() {
            while (!sees("")) {
                if (things.size() == 16) throw wrong(1);
                Thing thing = thing();
                want(";");
                things.add(thing);
            }
            return things;
        }

        Thing thing() {
            Thing thing = new Thing();
            thing.kind = here().text;
            if (!List.of("store", "delay", "stream", "table", "number", "helper").contains(thing.kind)) throw wrong(1);
            at++;
            thing.name = wantName();
            if (numbered(thing.name) >= 0) throw wrong(2);
            at++;
            if (thing.kind.equals("stream")) {
                want("from");
                thing.from = end();
                want("to");
                thing.to = end();
            }
            want("=");
            if (thing.kind.equals("store") || thing.kind.equals("number")) {
                thing.n = wantN(0, 99999);
                at++;
            } else if (thing.kind.equals("table")) {
                corners(thing);
            } else {
                if (thing.kind.equals("delay")) {
                    thing.n = wantN(1, 9);
                    at++;
                    want("of");
                }
                thing.e = whole();
            }
            return thing;
        }

        int end() {
            int number = -9;
            if (!sees("out")) {
                number = numbered(wantName());
                if (number < 0) throw wrong(2);
                if (!things.get(number).kind.equals("store")) throw wrong(3);
            }
            at++;
            return number;
        }

        void corners(Thing thing) {
            do {
                if (!thing.corners.isEmpty()) {
                    if (thing.corners.size() == 6) throw wrong(1);
                    want(",");
                }
                int x = wantN(0, 99999);
                if (!thing.corners.isEmpty() && x <= thing.corners.get(thing.corners.size() - 1)[0]) throw wrong(3);
                at++;
                want(":");
                int y = wantN(0, 99999);
                at++;
                thing.corners.add(new int[] {x, y});
            } while (thing.corners.size() < 2 || sees(","));
        }

        Tree whole() {
            Tree left = sum();
            if (sees("<") || sees("=")) {
                String sign = here().text;
                at++;
                left = new Tree(sign, 0, left, sum());
            }
            return left;
        }

        Tree sum() {
            Tree left = term();
            while (sees("+") || sees("-")) {
                String sign = here().text;
                at++;
                left = new Tree(sign, 0, left, term());
            }
            return left;
        }

        Tree term() {
            Tree left = one();
            while (sees("*") || sees("/")) {
                String sign = here().text;
                at++;
                left = new Tree(sign, 0, left, one());
            }
            return left;
        }

        void opens() {
            if (open == 4) throw wrong(1);
            open++;
            at++;
        }

        Tree one() {
            Tree tree;
            if (here().digits()) {
                tree = new Tree("n", wantN(0, 99999), null, null);
                at++;
            } else if (sees("-")) {
                opens();
                tree = new Tree("turn", 0, one(), null);
                open--;
            } else if (sees("(")) {
                opens();
                tree = whole();
                want(")");
                open--;
            } else if (sees("least")) {
                opens();
                want("(");
                Tree left = whole();
                want(",");
                tree = new Tree("least", 0, left, whole());
                want(")");
                open--;
            } else {
                int number = numbered(wantName());
                if (number < 0) throw wrong(2);
                at++;
                tree = new Tree("name", number, null, null);
                if (things.get(number).kind.equals("table")) {
                    if (!sees("[")) throw wrong(1);
                    opens();
                    tree = new Tree("table", number, whole(), null);
                    want("]");
                    open--;
                }
            }
            return tree;
        }
    }

    boolean has(int i) {
        return i >= 0 && i < state.things.size();
    }

    boolean is(int i, String kind) {
        return has(i) && state.things.get(i).kind.equals(kind);
    }

    int named(int name) {
        for (int i = 0; i < state.things.size(); i++) if (state.things.get(i).nameNumber() == name) return i;
        return -3;
    }

    int thing(int i, int what) {
        if (!has(i) || what < 0 || what > 3) return -1;
        Thing thing = state.things.get(i);
        return new int[] {thing.kindNumber(), thing.nameNumber(), thing.from, thing.to}[what];
    }

    // ---- steps

    /** Plays from step 0 to the last one; each change is {step, number, value}. */
    Play play(int last, List<int[]> changes) {
        Play play = new Play();
        int count = state.things.size();
        long[] held = new long[count];
        for (int i = 0; i < count; i++) held[i] = state.things.get(i).n;
        for (int step = 0; step <= last; step++) {
            for (int[] event : state.events) if (event[0] == step) held[event[1]] = event[2];
            for (int[] change : changes) if (change[0] == step) held[change[1]] = change[2];
            workOut(play, step, held);
            if (step < last) held = poured(play, step, held);
        }
        return play;
    }

    private void workOut(Play play, int step, long[] held) {
        int count = held.length;
        long[] values = new long[count];
        long[] es = new long[count];
        for (int i = 0; i < count; i++) {
            Thing thing = state.things.get(i);
            if (thing.e != null) es[i] = worked(thing.e, values);
            switch (thing.kind) {
                case "store", "number" -> values[i] = held[i];
                case "helper" -> values[i] = es[i];
                case "stream" -> values[i] = es[i] < 0 ? 0 : es[i];
                case "delay" -> values[i] = step < thing.n ? 0 : play.es.get(step - thing.n)[i];
                default -> values[i] = 0;
            }
        }
        play.values.add(values);
        play.es.add(es);
        long[] flows = new long[count];
        for (int i = 0; i < count; i++) {
            Thing thing = state.things.get(i);
            if (!thing.kind.equals("stream")) continue;
            flows[i] = values[i];
            if (thing.from < 0) continue;
            BigInteger all = BigInteger.ZERO;
            for (int k = 0; k < count; k++) {
                Thing other = state.things.get(k);
                if (other.kind.equals("stream") && other.from == thing.from) all = all.add(big(values[k]));
            }
            if (all.compareTo(big(held[thing.from])) > 0) {
                flows[i] = big(values[i]).multiply(big(held[thing.from])).divide(all).longValueExact();
            }
        }
        play.flows.add(flows);
    }

    private long[] poured(Play play, int step, long[] held) {
        long[] after = held.clone();
        long[] flows = play.flows.get(step);
        for (int i = 0; i < held.length; i++) {
            Thing thing = state.things.get(i);
            if (!thing.kind.equals("stream")) continue;
            if (thing.from >= 0) after[thing.from] -= flows[i];
            if (thing.to >= 0) after[thing.to] += flows[i];
            if (thing.from < 0) play.came = play.came.add(big(flows[i]));
            if (thing.to < 0) play.went = play.went.add(big(flows[i]));
        }
        for (int i = 0; i < held.length; i++) {
            if (state.things.get(i).kind.equals("store") && after[i] > 999999) {
                play.spilled = play.spilled.add(big(after[i] - 999999));
                after[i] = 999999;
            }
        }
        return after;
    }

    private static BigInteger big(long n) {
        return BigInteger.valueOf(n);
    }

    private int worked(Tree tree, long[] values) {
        int left = tree.left == null ? 0 : worked(tree.left, values);
        int right = tree.right == null ? 0 : worked(tree.right, values);
        return switch (tree.sort) {
            case "n" -> tree.number;
            case "name" -> (int) values[tree.number];
            case "table" -> looked(state.things.get(tree.number), left);
            case "turn" -> -left;
            case "+" -> left + right;
            case "-" -> left - right;
            case "*" -> left * right;
            case "/" -> right == 0 ? 0 : left / right;
            case "<" -> left < right ? 1 : 0;
            case "=" -> left == right ? 1 : 0;
            default -> Math.min(left, right);
        };
    }

    private static int looked(Thing table, int x) {
        List<int[]> corners = table.corners;
        int[] lesser = null;
        for (int[] corner : corners) {
            if (x == corner[0]) return corner[1];
            if (x < corner[0]) {
                if (lesser == null) return corner[1];
                BigInteger rise = big(corner[1] - lesser[1]).multiply(big(x - lesser[0]));
                return lesser[1] + rise.divide(big(corner[0] - lesser[0])).intValueExact();
            }
            lesser = corner;
        }
        return corners.get(corners.size() - 1)[1];
    }

    private Play now() {
        return play(state.step, state.changes);
    }

    int value(int i) {
        return at(i, state.step);
    }

    int at(int i, int step) {
        if (!has(i) || step < 0 || step > state.step) return NO;
        return (int) now().values.get(step)[i];
    }

    int flow(int i, int what) {
        if (!has(i) || what < 0 || what > 1) return -1;
        if (!is(i, "stream")) return -13;
        Play play = now();
        long flow = play.flows.get(state.step)[i];
        return (int) (what == 0 ? flow : play.values.get(state.step)[i] - flow);
    }

    int run(int n) {
        if (n < 1 || n > 60) return -1;
        if (state.step + n > 60) return -2;
        state.step += n;
        return state.step;
    }

    int begin() {
        int was = state.step;
        state.step = 0;
        state.changes = new ArrayList<>();
        return was;
    }

    int change(int i, int v) {
        if (!is(i, "number")) return NO;
        int was = value(i);
        state.changes.add(new int[] {state.step, i, v});
        return was;
    }

    int event(int step, int i, int v) {
        if (step <= state.step || step > 60 || !has(i)) return -1;
        if (!is(i, "number")) return -13;
        if (state.events.size() == 6) return -2;
        state.events.add(new int[] {step, i, v});
        return state.events.size() - 1;
    }

    long sum(int what) {
        Play play = now();
        if (what == 0) {
            long all = 0;
            for (int i = 0; i < state.things.size(); i++) if (is(i, "store")) all += value(i);
            return all;
        }
        if (what < 0 || what > 3) return -1;
        return List.of(play.spilled, play.came, play.went).get(what - 1).longValueExact();
    }

    // ---- causes

    boolean moves(int a, int b) {
        Thing one = state.things.get(a);
        Thing other = state.things.get(b);
        return other.e != null && other.e.names(a) || one.kind.equals("stream") && (one.from == b || one.to == b);
    }

    int moves(int i) {
        if (!has(i)) return -1;
        int bits = 0;
        for (int b = 0; b < state.things.size(); b++) if (moves(i, b)) bits |= 1 << b;
        return bits;
    }

    int reached(int i) {
        if (!has(i)) return -1;
        int count = state.things.size();
        boolean[][] way = new boolean[count][count];
        for (int a = 0; a < count; a++) for (int b = 0; b < count; b++) way[a][b] = moves(a, b);
        for (int k = 0; k < count; k++) {
            for (int a = 0; a < count; a++) {
                for (int b = 0; b < count; b++) way[a][b] |= way[a][k] && way[k][b];
            }
        }
        int bits = 0;
        for (int b = 0; b < count; b++) if (way[i][b]) bits |= 1 << b;
        return bits;
    }

    /** All rows of the next length out of those of the length ahead, put in order at the end. */
    List<List<Integer>> allRings() {
        List<List<Integer>> found = new ArrayList<>();
        List<List<Integer>> rowsNow = new ArrayList<>();
        for (int i = 0; i < state.things.size(); i++) rowsNow.add(List.of(i));
        for (int size = 1; size <= 6; size++) {
            List<List<Integer>> longer = new ArrayList<>();
            for (List<Integer> row : rowsNow) {
                int last = row.get(row.size() - 1);
                if (moves(last, row.get(0))) found.add(row);
                for (int next = row.get(0) + 1; next < state.things.size(); next++) {
                    if (row.contains(next) || !moves(last, next)) continue;
                    List<Integer> more = new ArrayList<>(row);
                    more.add(next);
                    longer.add(more);
                }
            }
            rowsNow = longer;
        }
        found.sort((a, b) -> {
            for (int k = 0; k < Math.min(a.size(), b.size()); k++) {
                if (!a.get(k).equals(b.get(k))) return a.get(k) - b.get(k);
            }
            return a.size() - b.size();
        });
        return found;
    }

    int rings() {
        return allRings().size();
    }

    int ring(int i, int what) {
        if (what < -1) return -1;
        List<List<Integer>> all = allRings();
        if (i < 0 || i >= all.size()) return -3;
        if (what == -1) return all.get(i).size();
        return what < all.get(i).size() ? all.get(i).get(what) : -3;
    }

    // ---- in thought

    private List<Long> stores(Play play, int step) {
        List<Long> all = new ArrayList<>();
        for (int i = 0; i < state.things.size(); i++) if (is(i, "store")) all.add(play.values.get(step)[i]);
        return all;
    }

    int rest(int n) {
        if (n < 0 || n > 200) return -1;
        Play play = play(state.step + n + 1, state.changes);
        for (int k = 0; k <= n; k++) {
            if (stores(play, state.step + k).equals(stores(play, state.step + k + 1))) return k;
        }
        return -3;
    }

    int swing(int n, int what) {
        if (n < 0 || n > 60 || what < 0 || what > 1) return -1;
        Play play = play(state.step + n, state.changes);
        for (int k = 0; k <= n; k++) {
            int latest = -1;
            for (int lesser = 0; lesser < k; lesser++) {
                if (stores(play, state.step + k).equals(stores(play, state.step + lesser))) latest = lesser;
            }
            if (latest >= 0) return what == 0 ? k : k - latest;
        }
        return -3;
    }

    private int behind(int i, int v, int thing, int n) {
        List<int[]> changes = new ArrayList<>(state.changes);
        changes.add(new int[] {state.step, i, v});
        return (int) play(state.step + n, changes).values.get(state.step + n)[thing];
    }

    int pull(int i, int by, int thing, int n) {
        if (!is(i, "number") || !has(thing) || n < 0 || n > 60) return NO;
        Play play = play(state.step + n, state.changes);
        return behind(i, value(i) + by, thing, n) - (int) play.values.get(state.step + n)[thing];
    }

    private boolean mayTry(int i, int low, int high, int store) {
        return is(i, "number") && is(store, "store") && high >= low && high <= low + 20L;
    }

    int best(int i, int low, int high, int store, int n) {
        if (!mayTry(i, low, high, store) || n < 0 || n > 60) return NO;
        long found = low;
        for (long v = low; v <= high; v++) {
            if (behind(i, (int) v, store, n) > behind(i, (int) found, store, n)) found = v;
        }
        return (int) found;
    }

    private long missed(List<int[]> changes, int store, int[] data) {
        Play play = play(Math.max(0, data.length - 1), changes);
        long all = 0;
        for (int k = 0; k < data.length; k++) {
            if (data[k] >= 0) all += Math.abs(data[k] - play.values.get(k)[store]);
        }
        return all;
    }

    long miss(int store, int sheet) {
        if (!has(store) || sheet < 0 || sheet > 3) return -1;
        if (!is(store, "store") || sheets[sheet] != null && !(sheets[sheet] instanceof int[])) return -13;
        return sheets[sheet] == null ? -11 : missed(List.of(), store, (int[]) sheets[sheet]);
    }

    int fit(int i, int low, int high, int store, int sheet) {
        if (!mayTry(i, low, high, store) || sheet < 0 || sheet > 3 || !(sheets[sheet] instanceof int[])) return NO;
        int[] data = (int[]) sheets[sheet];
        int found = low;
        for (long v = low; v <= high; v++) {
            long one = missed(List.of(new int[] {0, i, (int) v}), store, data);
            if (one < missed(List.of(new int[] {0, i, found}), store, data)) found = (int) v;
        }
        return found;
    }

    // ---- rows

    int prove(int i) {
        if (!has(i)) return -1;
        rows = new ArrayList<>();
        Play play = now();
        for (int k = 0; k <= state.step; k++) rows.add(new int[] {k, (int) play.values.get(k)[i]});
        return rows.size();
    }

    int row(int i, int what) {
        return i < 0 || i >= rows.size() || what < 0 || what > 1 ? NO : rows.get(i)[what];
    }

    int alterRow(int i, int what, int v) {
        int was = row(i, what);
        if (i >= 0 && i < rows.size() && what >= 0 && what <= 1) rows.get(i)[what] = v;
        return was;
    }

    int judge(int i) {
        if (!has(i)) return -1;
        Play play = now();
        int ahead = -1;
        for (int k = 0; k < rows.size(); k++) {
            int step = rows.get(k)[0];
            boolean right = step == ahead + 1 && step <= state.step && rows.get(k)[1] == play.values.get(step)[i];
            if (!right) return k + 1;
            ahead = step;
        }
        return ahead < state.step ? 222 : 0;
    }

    // ---- the host

    int sheet(int sheet, int sort, int n) {
        if (sheet < 0 || sheet > 3 || sort < -1 || sort > 3) return -1;
        if (sort == -1) {
            sheets[sheet] = null;
            return 1;
        }
        if (n > 40) return -1;
        if (n < 0) return -14;
        sheets[sheet] = sort == 0 ? new byte[n] : sort == 1 ? new short[n] : sort == 2 ? new int[n] : new long[n];
        return 1;
    }

    int put(int sheet, int i, int v) {
        if (sheet < 0 || sheet > 3) return -1;
        try {
            Object row = sheets[sheet];
            if (row == null) return -11;
            if (row instanceof byte[] bytes) bytes[i] = (byte) v;
            else if (row instanceof short[] shorts) shorts[i] = (short) v;
            else if (row instanceof int[] ints) ints[i] = v;
            else ((long[]) row)[i] = v;
            return 1;
        } catch (ArrayIndexOutOfBoundsException e) {
            return -12;
        }
    }

    int item(int sheet, int sort, int i) {
        if (sheet < 0 || sheet > 3 || sort < 0 || sort > 3) return -1;
        try {
            Object row = sheets[sheet];
            if (sort == 0) return ((byte[]) row)[i];
            if (sort == 1) return ((short[]) row)[i];
            if (sort == 2) return ((int[]) row)[i];
            return (int) ((long[]) row)[i];
        } catch (ClassCastException e) {
            return -13;
        } catch (NullPointerException e) {
            return -11;
        } catch (ArrayIndexOutOfBoundsException e) {
            return -12;
        }
    }

    int shelf(int shelf, int what, int n) {
        if (shelf < 0 || shelf > 3 || what < 0 || what > 2) return -1;
        if (what == 0 && !has(n) || what == 1 && (n < 0 || n > 3)) return -1;
        shelves[shelf] = what == 0 ? Integer.valueOf(n) : what == 1 ? sheets[n] : null;
        return 1;
    }

    private Object on(int shelf) {
        boolean gone = shelves[shelf] instanceof Integer n && !has(n);
        return gone ? null : shelves[shelf];
    }

    private static final List<String> WAYS = List.of("thing", "thing store", "thing store delay", "thing stream",
        "thing stream table", "thing number", "thing number helper");

    int taken(int shelf, int as) {
        if (shelf < 0 || shelf > 3 || as < 0 || as > 13 || as > 6 && as < 10) return -1;
        Object held = on(shelf);
        if (held == null) return -11;
        if (held instanceof Integer n) {
            return as <= 6 && WAYS.get(state.things.get(n).kindNumber()).startsWith(WAYS.get(as)) ? n : -13;
        }
        if (as == 10 && held instanceof byte[] row) return row.length;
        if (as == 11 && held instanceof short[] row) return row.length;
        if (as == 12 && held instanceof int[] row) return row.length;
        return as == 13 && held instanceof long[] row ? row.length : -13;
    }

    static final class Parted extends RuntimeException {
    }

    /** The BODIES as a list: "kind act" to its number; a body is looked for from a kind upwards. */
    private static final List<String> BODIES = List.of("thing reads 10", "thing steps 11", "thing units 12",
        "thing tells 13", "store steps 20", "delay reads 30", "delay tells 31", "stream units 40", "table reads 50",
        "table units 51", "number reads 60", "helper steps 70", "helper tells 71");

    private int call(List<String> way, String self, String act, int n, int a, int x) {
        for (int k = way.size() - 1; k >= 0; k--) {
            for (String body : BODIES) {
                if (!body.startsWith(way.get(k) + " " + act + " ")) continue;
                int number = Integer.parseInt(body.substring(body.lastIndexOf(' ') + 1));
                if (trace.size() < 30) trace.add(number);
                return done(number, way.subList(0, k), self, n, a, x);
            }
        }
        throw new IllegalStateException(act);
    }

    private int done(int body, List<String> above, String self, int n, int a, int x) {
        List<String> all = List.of(self.split(" "));
        switch (body) {
            case 10: return x + n;
            case 11: return call(all, self, "reads", n, a, x) * 2;
            case 12:
                if (a == n) throw new Parted();
                return x / (a - n);
            case 13: return call(all, self, "steps", n, a, x) ^ a;
            case 20: return call(above, self, "steps", n, a, x) - a;
            case 30: return call(above, self, "reads", n, a, x) * 3;
            case 31: return call(above, self, "tells", n, a, x) + call(all, self, "units", n, a, n);
            case 40: return call(above, self, "units", n, a, x + 2) ^ 1;
            case 50: return 0 - call(above, self, "reads", n, a, x);
            case 51: return call(above, self, "units", n, a, x) + call(all, self, "reads", n, a, n);
            case 60: return call(above, self, "reads", n, a, x) - 4;
            case 70: return call(above, self, "steps", n, a, x) + call(all, self, "units", n, a, a);
            default: return call(above, self, "tells", n, a, x) * 2;
        }
    }

    int act(int shelf, int act, int x) {
        trace = new ArrayList<>();
        if (shelf < 0 || shelf > 3 || act < 0 || act > 3 || !(on(shelf) instanceof Integer n)) return 0;
        Thing thing = state.things.get(n);
        String self = WAYS.get(thing.kindNumber());
        String what = List.of("reads", "steps", "units", "tells").get(act);
        try {
            return call(List.of(self.split(" ")), self, what, n, thing.name.length(), x);
        } catch (Parted parted) {
            return -15;
        }
    }

    int trace(int i) {
        return i >= 0 && i < trace.size() ? trace.get(i) : -3;
    }

    int many(int what) {
        if (what < 0 || what > 5) return -1;
        return new int[] {state.things.size(), state.step, state.events.size(), rows.size(), tape.length(),
            trace.size()}[what];
    }

    // ---- kept

    int keep() {
        kept = state.copy();
        return 1;
    }

    int back() {
        if (kept == null) return -3;
        state = kept.copy();
        return state.step;
    }
}
