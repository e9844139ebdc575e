import java.util.ArrayList;
import java.util.Arrays;
import java.util.HashMap;
import java.util.HashSet;
import java.util.List;
import java.util.Map;
import java.util.Set;
import java.util.TreeMap;

/** The document's promises once more, in their plainest and slowest form, to compare answers with. */
final class Oracle {
    static final int BAD = -1, STATE = -2, FULL = -3, ENDLESS = -4, NONE = -9;
    /** What brute force can't answer in a bearable time: not compared. */
    static final int UNKNOWN = -999;

    static final class Call {
        int from, to;
        int[][] arcs = new int[3][3];
    }

    String text = "";
    int[] places = new int[4];
    List<Call> calls = new ArrayList<>();
    List<Integer> trip = new ArrayList<>();
    int most = 2;
    long trace = 0;

    // ---- texts

    int type(long v, int n) {
        if (n < 1 || n > 8) return BAD;
        if (text.length() + n > 300) return FULL;
        for (int i = n - 1; i >= 0; i--) text += (char) ((v >> (8 * i)) & 0xFF);
        return text.length();
    }

    int clear() {
        int n = text.length();
        text = "";
        return n;
    }

    /** A token as its text and its place; the last one is the end, with an empty text. */
    record Token(String text, int place) { }

    static List<Token> tokens(String text) {
        List<Token> all = new ArrayList<>();
        int i = 0;
        while (i < text.length()) {
            int j = i + 1;
            char c = text.charAt(i);
            if (c >= 'a' && c <= 'z') {
                while (j < text.length() && text.charAt(j) >= 'a' && text.charAt(j) <= 'z') j++;
            } else if (c >= '0' && c <= '9') {
                while (j < text.length() && text.charAt(j) >= '0' && text.charAt(j) <= '9') j++;
            }
            if (c != ' ') all.add(new Token(text.substring(i, j), i));
            i = j;
        }
        all.add(new Token("", text.length()));
        return all;
    }

    static final class Fault extends RuntimeException {
        private static final long serialVersionUID = 1;
        final int place;
        Fault(int place) { this.place = place; }
    }

    static String need(Token t, String pattern) {
        if (!t.text().matches(pattern)) throw new Fault(t.place());
        return t.text();
    }

    static int below(Token t, int bound) {
        int n = need(t, "[0-9]").charAt(0) - '0';
        if (n >= bound) throw new Fault(t.place());
        return n;
    }

    int read() {
        int[] newPlaces = new int[4];
        List<Call> newCalls = new ArrayList<>();
        int items = 0;
        try {
            List<Token> ts = tokens(text);
            Set<String> told = new HashSet<>();
            int i = 0;
            while (!ts.get(i).text().isEmpty()) {
                String word = need(ts.get(i), newCalls.isEmpty() ? "act|call" : newCalls.size() < 8 ? "call" : "never");
                i++;
                if (word.equals("act")) {
                    String act = need(ts.get(i), "[A-D]");
                    if (!told.add(act)) throw new Fault(ts.get(i).place());
                    newPlaces[act.charAt(0) - 'A'] = below(ts.get(i + 1), 4);
                    need(ts.get(i + 2), ";");
                    i += 3;
                } else {
                    Call c = new Call();
                    c.from = need(ts.get(i), "[A-D]").charAt(0) - 'A';
                    c.to = need(ts.get(i + 1), "[A-D]").charAt(0) - 'A';
                    newCalls.add(c);
                    i += 2;
                    while (!ts.get(i).text().equals(";")) {
                        int x = below(ts.get(i), newPlaces[c.from]);
                        int v = need(ts.get(i + 1), "[>=]").equals(">") ? 2 : 1;
                        int y = below(ts.get(i + 2), newPlaces[c.to]);
                        c.arcs[x][y] = Math.max(c.arcs[x][y], v);
                        i += 3;
                    }
                    i++;
                }
                items++;
            }
        } catch (Fault f) {
            return -10 - f.place;
        }
        places = newPlaces;
        calls = newCalls;
        trip.clear();
        text = "";
        return items;
    }

    boolean noAct(int act) { return act < 0 || act > 3; }

    boolean noCall(int i) { return i < 0 || i >= calls.size(); }

    int places(int act) { return noAct(act) ? BAD : places[act]; }

    static int number(int[][] arcs) {
        int n = 0;
        int power = 1;
        for (int x = 0; x < 3; x++) {
            for (int y = 0; y < 3; y++) {
                n += power * arcs[x][y];
                power *= 3;
            }
        }
        return n;
    }

    static int[][] arcsOf(int number) {
        int[][] arcs = new int[3][3];
        for (int i = 0; i < 9; i++, number /= 3) arcs[i / 3][i % 3] = number % 3;
        return arcs;
    }

    int call(int i, int what) {
        if (noCall(i) || what < 0 || what > 2) return BAD;
        Call c = calls.get(i);
        return what == 0 ? c.from : what == 1 ? c.to : number(c.arcs);
    }

    boolean noPair(int i, int x, int y) {
        return noCall(i) || x < 0 || x >= places[calls.get(i).from] || y < 0 || y >= places[calls.get(i).to];
    }

    int arc(int i, int x, int y) { return noPair(i, x, y) ? BAD : calls.get(i).arcs[x][y]; }

    int put(int i, int x, int y, int v) {
        if (noPair(i, x, y) || v < 0 || v > 2) return BAD;
        int was = calls.get(i).arcs[x][y];
        calls.get(i).arcs[x][y] = v;
        return was;
    }

    // ---- graphs

    static int[][] join(int[][] a, int[][] b) {
        int[][] c = new int[3][3];
        for (int x = 0; x < 3; x++) {
            for (int y = 0; y < 3; y++) {
                for (int z = 0; z < 3; z++) {
                    if (a[x][y] != 0 && b[y][z] != 0) c[x][z] = Math.max(c[x][z], Math.max(a[x][y], b[y][z]));
                }
            }
        }
        return c;
    }

    static int join(int a, int b) { return number(join(arcsOf(a), arcsOf(b))); }

    /** From, to and number of each graph in order; null if there are more than 1000. */
    static TreeMap<Long, int[]> closure(List<Call> calls) {
        TreeMap<Long, int[]> all = new TreeMap<>();
        List<int[]> todo = new ArrayList<>();
        for (Call c : calls) todo.add(new int[] {c.from, c.to, number(c.arcs)});
        while (!todo.isEmpty()) {
            int[] g = todo.remove(todo.size() - 1);
            if (all.put(g[0] * 1000000L + g[1] * 100000L + g[2], g) != null) continue;
            if (all.size() > 1000) return null;
            // put together ahead, where the class puts together behind
            for (Call c : calls) {
                if (c.to == g[0]) todo.add(new int[] {c.from, g[1], join(number(c.arcs), g[2])});
            }
        }
        return all;
    }

    static boolean round(int[] g) { return g[0] == g[1] && join(g[2], g[2]) == g[2]; }

    static boolean bad(int[] g) {
        int[][] a = arcsOf(g[2]);
        return round(g) && a[0][0] != 2 && a[1][1] != 2 && a[2][2] != 2;
    }

    static boolean ends(TreeMap<Long, int[]> graphs, int act) {
        for (int[] g : graphs.values()) if (bad(g) && (act < 0 || g[0] == act)) return false;
        return true;
    }

    int graphs() {
        TreeMap<Long, int[]> all = closure(calls);
        return all == null ? STATE : all.size();
    }

    int graph(int k, int what) {
        if (k < 0 || what < 0 || what > 4) return BAD;
        TreeMap<Long, int[]> all = closure(calls);
        if (all == null) return STATE;
        if (k >= all.size()) return BAD;
        int[] g = new ArrayList<>(all.values()).get(k);
        return what < 3 ? g[what] : (what == 3 ? round(g) : bad(g)) ? 1 : 0;
    }

    int together(int one, int other) {
        if (one < 0 || one > 19682 || other < 0 || other > 19682) return BAD;
        return join(one, other);
    }

    int ends(int act) {
        if (act < -1 || act > 3) return BAD;
        TreeMap<Long, int[]> all = closure(calls);
        return all == null ? STATE : ends(all, act) ? 1 : 0;
    }

    /** Every way of each length, in order. */
    int[] shortestWay() {
        List<int[]> ways = new ArrayList<>();
        ways.add(new int[0]);
        for (int length = 1; length <= 8; length++) {
            List<int[]> longer = new ArrayList<>();
            for (int[] w : ways) {
                for (int c = 0; c < calls.size(); c++) {
                    if (w.length > 0 && calls.get(w[w.length - 1]).to != calls.get(c).from) continue;
                    int[] more = Arrays.copyOf(w, w.length + 1);
                    more[w.length] = c;
                    if (bad(new int[] {calls.get(more[0]).from, calls.get(c).to, number(graphOf(more))})) return more;
                    longer.add(more);
                }
            }
            ways = longer;
            if (ways.size() > 3000) return null;
        }
        return new int[0];
    }

    int[][] graphOf(int[] way) {
        int[][] g = calls.get(way[0]).arcs;
        for (int i = 1; i < way.length; i++) g = join(g, calls.get(way[i]).arcs);
        return g;
    }

    int shortest(int k) {
        if (k < -1) return BAD;
        TreeMap<Long, int[]> all = closure(calls);
        if (all == null) return STATE;
        if (ends(all, -1)) return NONE;
        int[] way = shortestWay();
        if (way == null) return UNKNOWN;
        if (way.length == 0) return NONE;
        return k == -1 ? way.length : k < way.length ? way[k] : BAD;
    }

    // ---- round trips

    int go(int call) {
        if (noCall(call)) return BAD;
        if (!trip.isEmpty() && calls.get(trip.get(trip.size() - 1)).to != calls.get(call).from) return STATE;
        if (trip.size() == 12) return FULL;
        trip.add(call);
        return trip.size();
    }

    int anew() {
        int n = trip.size();
        trip.clear();
        return n;
    }

    /** Over places at each call of the trip, not over its graph. */
    int trip(int what) {
        if (what < 0 || what > 2) return BAD;
        int n = trip.size();
        if (n == 0 || calls.get(trip.get(n - 1)).to != calls.get(trip.get(0)).from) return STATE;
        int[] way = new int[n];
        for (int i = 0; i < n; i++) way[i] = trip.get(i);
        if (what == 0) return number(graphOf(way));
        int nodes = 3 * n;
        boolean[][] reach = new boolean[nodes][nodes];
        for (int i = 0; i < nodes; i++) {
            for (int y = 0; y < 3; y++) {
                if (calls.get(way[i / 3]).arcs[i % 3][y] != 0) reach[i][(i / 3 + 1) % n * 3 + y] = true;
            }
        }
        boolean[][] step = new boolean[nodes][];
        for (int i = 0; i < nodes; i++) step[i] = reach[i].clone();
        for (int k = 0; k < nodes; k++) {
            for (int i = 0; i < nodes; i++) {
                for (int j = 0; j < nodes; j++) reach[i][j] |= reach[i][k] && reach[k][j];
            }
        }
        if (what == 1) {
            int bits = 0;
            for (int x = 0; x < 3; x++) {
                for (int j = 0; j < nodes; j++) {
                    if ((reach[x][j] || x == j) && reach[j][j]) bits |= 1 << x;
                }
            }
            return bits;
        }
        for (int i = 0; i < nodes; i++) {
            for (int y = 0; y < 3; y++) {
                int j = (i / 3 + 1) % n * 3 + y;
                if (calls.get(way[i / 3]).arcs[i % 3][y] == 2 && (reach[j][i] || i == j)) return 1;
            }
        }
        return 0;
    }

    // ---- orders, mending

    static void orders(List<Integer> row, int places, int length, List<List<Integer>> into) {
        if (row.size() == length) {
            into.add(new ArrayList<>(row));
            return;
        }
        for (int p = 0; p < places; p++) {
            if (row.contains(p)) continue;
            row.add(p);
            orders(row, places, length, into);
            row.remove(row.size() - 1);
        }
    }

    static boolean falls(List<Integer> row, int[][] arcs) {
        for (int p : row) if (arcs[p][p] != 1) return arcs[p][p] == 2;
        return false;
    }

    int slow(int act) {
        if (noAct(act)) return BAD;
        TreeMap<Long, int[]> all = closure(calls);
        if (all == null) return STATE;
        List<List<Integer>> rows = new ArrayList<>();
        for (int length = 0; length <= places[act]; length++) orders(new ArrayList<>(), places[act], length, rows);
        for (List<Integer> row : rows) {
            boolean fits = true;
            for (int[] g : all.values()) fits &= g[0] != act || g[1] != act || falls(row, arcsOf(g[2]));
            if (!fits) continue;
            int n = 0;
            for (int i = row.size() - 1; i >= 0; i--) n = 4 * n + row.get(i) + 1;
            return n;
        }
        return NONE;
    }

    int mended(int what) {
        if (what < 0 || what > 1) return BAD;
        if (closure(calls) == null) return STATE;
        int best = (1 << calls.size()) - 1;
        for (int set = best; set >= 0; set--) {
            if (Integer.bitCount(set) > Integer.bitCount(best)) continue;
            List<Call> left = new ArrayList<>();
            for (int i = 0; i < calls.size(); i++) if ((set >> i & 1) == 0) left.add(calls.get(i));
            if (ends(closure(left), -1)) best = set;
        }
        return what == 0 ? Integer.bitCount(best) : best;
    }

    int needed(int k) {
        if (k < -1) return BAD;
        TreeMap<Long, int[]> all = closure(calls);
        if (all == null || !ends(all, -1)) return STATE;
        List<Integer> found = new ArrayList<>();
        for (int i = 0; i < calls.size(); i++) {
            for (int j = 0; j < 9; j++) {
                int[][] arcs = calls.get(i).arcs;
                if (arcs[j / 3][j % 3] != 2) continue;
                arcs[j / 3][j % 3] = 1;
                TreeMap<Long, int[]> then = closure(calls);
                arcs[j / 3][j % 3] = 2;
                if (then == null) return STATE;
                if (!ends(then, -1)) found.add(9 * i + j);
            }
        }
        return k == -1 ? found.size() : k < found.size() ? found.get(k) : BAD;
    }

    // ---- runs

    int most(int v) {
        if (v < 0 || v > 3) return BAD;
        int was = most;
        most = v;
        return was;
    }

    boolean noState(int act, int... sizes) {
        if (noAct(act)) return true;
        for (int i = 0; i < 3; i++) if (sizes[i] < 0 || sizes[i] > (i < places[act] ? most : 0)) return true;
        return false;
    }

    /** Tries all sizes there are. */
    Set<List<Integer>> after(List<Integer> state) {
        Set<List<Integer>> found = new HashSet<>();
        for (Call call : calls) {
            if (call.from != state.get(0)) continue;
            for (int i = 0; i < 64; i++) {
                List<Integer> t = List.of(call.to, i & 3, i >> 2 & 3, i >> 4);
                if (noState(call.to, t.get(1), t.get(2), t.get(3))) continue;
                boolean fits = true;
                for (int x = 0; x < 3; x++) {
                    for (int y = 0; y < 3; y++) {
                        int had = state.get(x + 1);
                        int has = t.get(y + 1);
                        if (call.arcs[x][y] == 1) fits &= has <= had;
                        if (call.arcs[x][y] == 2) fits &= has < had;
                    }
                }
                if (fits) found.add(t);
            }
        }
        return found;
    }

    int longest(List<Integer> state, Map<List<Integer>, Integer> known) {
        Integer k = known.get(state);
        if (k != null) return k;
        known.put(state, ENDLESS);
        int longest = 0;
        for (List<Integer> t : after(state)) {
            int n = longest(t, known);
            if (n == ENDLESS) return ENDLESS;
            longest = Math.max(longest, n + 1);
        }
        known.put(state, longest);
        return longest;
    }

    int longest(int act, int a, int b, int c) {
        return noState(act, a, b, c) ? BAD : longest(List.of(act, a, b, c), new HashMap<>());
    }

    int next(int act, int a, int b, int c) {
        return noState(act, a, b, c) ? BAD : after(List.of(act, a, b, c)).size();
    }

    int weight(int kind, int i) {
        if (kind < 0 || kind > 4 || noCall(i)) return BAD;
        Call c = calls.get(i);
        int arcs = 0, less = 0, same = 0;
        for (int x = 0; x < 3; x++) {
            for (int y = 0; y < 3; y++) {
                if (c.arcs[x][y] != 0) arcs++;
                if (c.arcs[x][y] == 2) less++;
                if (c.arcs[x][y] != 0 && x == y) same++;
            }
        }
        trace += new int[] {1, 11, 101, 1011, 10101}[kind];
        return new int[] {arcs, arcs + less, 2 * arcs, arcs + less - same, 2 * arcs + places[c.to]}[kind];
    }

    int count(int what) {
        switch (what) {
            case 0: return calls.size();
            case 1: return places[0] + places[1] + places[2] + places[3];
            case 2: return trip.size();
            case 3: {
                int n = 0;
                for (Call c : calls) for (int[] row : c.arcs) for (int v : row) n += v != 0 ? 1 : 0;
                return n;
            }
            case 4: return text.length();
            case 5: return most;
            default: return BAD;
        }
    }

    long trace() { return trace; }
}
