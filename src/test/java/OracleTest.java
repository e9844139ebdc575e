import java.util.Random;

/** Long random runs of calls, each answer compared with the plain Oracle's; always the same runs. */
public final class OracleTest {
    private static final String[] NAMES = {"type", "clear", "read", "places", "call", "arc", "put", "graphs",
        "graph", "together", "ends", "shortest", "go", "anew", "trip", "slow", "mended", "needed", "most",
        "longest", "next", "weight", "count", "trace"};

    private static int wrong = 0;
    private static final int[] asked = new int[NAMES.length];
    private static final int[] answered = new int[NAMES.length];
    private static int large = 0, ended = 0, neededLarge = 0, endless = 0, longWay = 0;

    private final Random random;
    private final ShrinkingCalls x = new ShrinkingCalls();
    private final Oracle o = new Oracle();
    private final StringBuilder story = new StringBuilder();

    private OracleTest(long seed) {
        random = new Random(seed);
    }

    public static void main(String[] args) {
        int runs = args.length > 0 ? Integer.parseInt(args[0]) : 1500;
        long first = args.length > 1 ? Long.parseLong(args[1]) : 1;
        for (long seed = first; seed < first + runs && wrong < 10; seed++) new OracleTest(seed).run();
        StringBuilder counts = new StringBuilder();
        for (int i = 0; i < NAMES.length; i++) counts.append(NAMES[i]).append(' ').append(answered[i]).append('/').append(asked[i]).append(' ');
        System.out.println(counts);
        System.out.println("large " + large + " ended " + ended + " needed large " + neededLarge
                + " endless " + endless + " ways of four and more " + longWay);
        System.out.println(wrong == 0 ? "all answers are the oracle's" : wrong + " answers are not the oracle's");
        if (wrong != 0) System.exit(1);
    }

    private void run() {
        int style = random.nextInt(6);
        int calls = 0;
        while (calls < 440 && wrong < 10) {
            if (calls == 0 || random.nextInt(60) == 0) {
                String text = random.nextInt(3) > 0 ? validText(style) : spoiled(validText(style));
                if (text.length() > 300) text = text.substring(0, 300);
                compare(1, 0, 0, 0, 0);
                calls++;
                for (int i = 0; i < text.length(); i += 8) {
                    int n = Math.min(8, text.length() - i);
                    long v = random.nextLong();
                    for (int j = 0; j < n; j++) v = v << 8 | text.charAt(i + j);
                    compare(0, v, n, 0, 0);
                    calls++;
                }
                compare(2, 0, 0, 0, 0);
                calls++;
            }
            int what = random.nextInt(NAMES.length);
            // an empty text read leaves no calls to ask about
            if (what == 2 && random.nextInt(o.text.isEmpty() ? 40 : 4) > 0) continue;
            // the oracle is slow where it must try all sets of calls
            if ((what == 16 || what == 17) && random.nextInt(4) > 0) continue;
            if (what == 0) compare(0, random.nextLong(), random.nextInt(11) - 1, 0, 0);
            else if ((what == 19 || what == 20) && random.nextInt(4) > 0) compareRun(what);
            else if (what == 12 && o.calls.size() > 0 && random.nextInt(4) > 0) compare(12, random.nextInt(o.calls.size()), 0, 0, 0);
            else compare(what, small(what == 9 ? 0 : what), small(what == 9 ? 0 : -1), small(-1), small(-1));
            calls++;
        }
        lawsHold();
    }

    /** What the document says to follow from one another, whatever the oracle takes it to mean (22 calls). */
    private void lawsHold() {
        int ends = x.ends(-1);
        int shortest = x.shortest(-1);
        int mended = x.mended(0);
        if (ends == Oracle.STATE) {
            law(shortest == Oracle.STATE && mended == Oracle.STATE && x.graphs() == Oracle.STATE, "LARGE for all or none");
            return;
        }
        law(shortest == Oracle.NONE || ends == 0, "a shortest way, yet it ENDS");
        law((mended == 0) == (ends == 1), "nothing left out, if and only if it ENDS");
        law(x.trip(2) != 0 || ends == 0, "it ENDS, so each trip FALLS");
        int m = x.count(5);
        boolean all = true;
        for (int act = 0; act < 4; act++) {
            int p = x.places(act);
            boolean acts = x.ends(act) == 1;
            all &= acts;
            law(x.slow(act) == Oracle.NONE || acts, "an order by which calls fall, so it ENDS");
            law(x.longest(act, p > 0 ? m : 0, p > 1 ? m : 0, p > 2 ? m : 0) != Oracle.ENDLESS || ends == 0, "it ENDS, so no run is ENDLESS");
        }
        law(all == (ends == 1), "all ENDS, if and only if each ACT does");
    }

    private void law(boolean holds, String what) {
        if (!holds) {
            wrong++;
            System.out.println(story + "then this does not hold: " + what);
        }
    }

    private void compareRun(int what) {
        int act = random.nextInt(4);
        int[] sizes = new int[3];
        for (int i = 0; i < o.places[act]; i++) sizes[i] = random.nextInt(o.most + 1);
        compare(what, act, sizes[0], sizes[1], sizes[2]);
    }

    /** Mostly numbers that are as told, some a little or far beyond. */
    private int small(int what) {
        int pick = random.nextInt(40);
        if (pick == 0) return -1;
        if (pick == 1) return random.nextInt();
        if (pick == 2) return Integer.MIN_VALUE + random.nextInt(2) * 0x7fffffff;
        if (pick == 3) return -2;
        if (what == 0) return random.nextInt(19690) - 3;
        if (what == 8 && random.nextInt(2) == 0) return random.nextInt(1010);
        if (what >= 0 && (what == 11 || what == 17 || what == 10)) return random.nextInt(10) - 1;
        return random.nextInt(random.nextInt(3) == 0 ? 9 : 4);
    }

    /** Many arcs among all places, most of them KEPT: such calls have many graphs. */
    private String crowdedText() {
        StringBuilder b = new StringBuilder();
        int acts = 1 + random.nextInt(2);
        for (int a = 0; a < acts; a++) b.append("act ").append((char) ('A' + a)).append("3;");
        int calls = 2 + random.nextInt(7);
        for (int i = 0; i < calls; i++) {
            b.append("call").append((char) ('A' + random.nextInt(acts))).append((char) ('A' + random.nextInt(acts)));
            for (int arcs = 2 + random.nextInt(4); arcs > 0; arcs--) {
                b.append(random.nextInt(3)).append(random.nextInt(3) == 0 ? '>' : '=').append(random.nextInt(3)).append(' ');
            }
            b.append(';');
        }
        return b.toString();
    }

    private String validText(int style) {
        if (style >= 4) return crowdedText();
        StringBuilder b = new StringBuilder();
        int[] places = new int[4];
        int acts = 1 + random.nextInt(4);
        if (style == 3) acts = 1 + random.nextInt(2);
        for (int a = 0; a < acts; a++) {
            if (random.nextInt(8) == 0) continue;
            places[a] = style == 0 ? random.nextInt(4) : 3 - random.nextInt(2);
            b.append(blank(0)).append("act").append(blank(0)).append((char) ('A' + a)).append(blank(0))
                    .append(places[a]).append(blank(0)).append(';');
        }
        int calls = random.nextInt(style == 3 ? 6 : 9);
        for (int i = 0; i < calls; i++) {
            int p = random.nextInt(acts);
            int q = random.nextInt(acts);
            b.append(blank(0)).append("call").append(blank(0)).append((char) ('A' + p)).append(blank(0)).append((char) ('A' + q));
            int arcs = places[p] * places[q] == 0 ? 0 : random.nextInt(style == 2 ? 7 : 5);
            for (int j = 0; j < arcs; j++) {
                boolean self = random.nextInt(3) == 0;
                int x = random.nextInt(places[p]);
                int y = self && x < places[q] ? x : random.nextInt(places[q]);
                b.append(blank(j == 0 ? 0 : 1)).append(x).append(blank(0))
                        .append(random.nextInt(style == 3 ? 2 : 3) == 0 ? '=' : '>').append(blank(0)).append(y);
            }
            b.append(blank(0)).append(';');
        }
        return b.append(blank(0)).toString();
    }

    private String blank(int least) {
        int n = least + (random.nextInt(12) == 0 ? 1 + random.nextInt(2) : 0);
        return "  ".substring(0, Math.min(n, 2));
    }

    private String spoiled(String text) {
        StringBuilder b = new StringBuilder(text);
        String signs = "actcall ABCDE0123459>=;; <xzA@`{/:" + (char) 200 + (char) 0 + (char) 255 + (char) 9;
        for (int n = random.nextInt(3); n >= 0 && b.length() > 0; n--) {
            int at = random.nextInt(b.length());
            switch (random.nextInt(4)) {
                case 0: b.deleteCharAt(at); break;
                case 1: b.setCharAt(at, signs.charAt(random.nextInt(signs.length()))); break;
                case 2: b.insert(at, signs.charAt(random.nextInt(signs.length()))); break;
                default: b.setLength(at + 1); break;
            }
        }
        return b.toString();
    }

    private void compare(int what, long l, int b, int c, int d) {
        int a = (int) l;
        asked[what]++;
        String call = NAMES[what] + "(" + (what == 0 ? l + ", " + b : a + ", " + b + ", " + c + ", " + d) + ")";
        long want;
        long got;
        switch (what) {
            case 0: want = o.type(l, b); got = x.type(l, b); break;
            case 1: want = o.clear(); got = x.clear(); break;
            case 2: want = o.read(); got = x.read(); break;
            case 3: want = o.places(a); got = x.places(a); break;
            case 4: want = o.call(a, b); got = x.call(a, b); break;
            case 5: want = o.arc(a, b, c); got = x.arc(a, b, c); break;
            case 6: want = o.put(a, b, c, d); got = x.put(a, b, c, d); break;
            case 7: want = o.graphs(); got = x.graphs(); break;
            case 8: want = o.graph(a, b); got = x.graph(a, b); break;
            case 9: want = o.together(a, b); got = x.together(a, b); break;
            case 10: want = o.ends(a); got = x.ends(a); break;
            case 11: want = o.shortest(a); got = x.shortest(a); break;
            case 12: want = o.go(a); got = x.go(a); break;
            case 13: want = random.nextInt(3) == 0 ? o.anew() : -77; got = want == -77 ? -77 : x.anew(); break;
            case 14: want = o.trip(a); got = x.trip(a); break;
            case 15: want = o.slow(a); got = x.slow(a); break;
            case 16: want = o.mended(a); got = x.mended(a); break;
            case 17: want = o.needed(a); got = x.needed(a); break;
            case 18: want = o.most(a); got = x.most(a); break;
            case 19: want = o.longest(a, b, c, d); got = x.longest(a, b, c, d); break;
            case 20: want = o.next(a, b, c, d); got = x.next(a, b, c, d); break;
            case 21: want = o.weight(a, b); got = x.weight(a, b); break;
            case 22: want = o.count(a); got = x.count(a); break;
            default: want = o.trace(); got = x.trace(); break;
        }
        if (want >= 0) answered[what]++;
        note(what, a, want);
        story.append(call).append(" -> ").append(got).append('\n');
        if (want != got && want != Oracle.UNKNOWN) {
            wrong++;
            System.out.println(story + "the oracle's answer to the last one: " + want);
        }
    }

    private void note(int what, int a, long want) {
        if (what == 7 && want == Oracle.STATE) large++;
        if (what == 10 && want == 1) ended++;
        if (what == 17 && a >= -1 && want == Oracle.STATE && o.ends(-1) == 1) neededLarge++;
        if (what == 19 && want == Oracle.ENDLESS) endless++;
        if (what == 11 && a == -1 && want >= 4) longWay++;
    }
}
