/** All 19683 graphs, each as the one call of an act to itself, and every row of arcs put together with every graph. */
public final class EveryGraphTest {
    private static final int GRAPHS = 19683;
    private static final int ROWS = 27;
    private static final String TEXT = "act A3;call AA;";

    public static void main(String[] args) {
        everyGraphAsACall();
        everyRowWithEveryGraph();
        Checks.end();
    }

    /** By put(): the next graph differs in its first row alone, but for each 27th one. */
    private static void everyGraphAsACall() {
        ShrinkingCalls x = null;
        Oracle o = null;
        for (int number = 0; number < GRAPHS; number++) {
            // an object answers 512 calls at most
            if (number % ROWS == 0) {
                x = Checks.told(TEXT);
                o = new Oracle();
                for (char c : TEXT.toCharArray()) o.type(c, 1);
                o.read();
                x.go(0);
                o.go(0);
                for (int pair = 3; pair < 9; pair++) putBoth(x, o, number, pair);
            }
            for (int pair = 0; pair < 3; pair++) putBoth(x, o, number, pair);
            compare(x, o, number);
        }
    }

    private static void putBoth(ShrinkingCalls x, Oracle o, int number, int pair) {
        int v = number / (int) Math.pow(3, pair) % 3;
        Checks.due("put", x.put(0, pair / 3, pair % 3, v), o.put(0, pair / 3, pair % 3, v));
    }

    private static void compare(ShrinkingCalls x, Oracle o, int number) {
        String of = " of the call " + number;
        Checks.due("call(0, 2)" + of, x.call(0, 2), number);
        Checks.due("graphs()" + of, x.graphs(), o.graphs());
        Checks.due("graph(0, 3)" + of, x.graph(0, 3), o.graph(0, 3));
        Checks.due("graph(0, 4)" + of, x.graph(0, 4), o.graph(0, 4));
        Checks.due("ends(0)" + of, x.ends(0), o.ends(0));
        Checks.due("shortest(-1)" + of, x.shortest(-1), o.shortest(-1));
        Checks.due("trip(1)" + of, x.trip(1), o.trip(1));
        Checks.due("trip(2)" + of, x.trip(2), o.trip(2));
        Checks.due("slow(0)" + of, x.slow(0), o.slow(0));
        Checks.due("needed(-1)" + of, x.needed(-1), o.needed(-1));
        Checks.due("longest(0, 2, 1, 2)" + of, x.longest(0, 2, 1, 2), o.longest(0, 2, 1, 2));
        Checks.due("next(0, 1, 2, 2)" + of, x.next(0, 1, 2, 2), o.next(0, 1, 2, 2));
        Checks.due("weight(3, 0)" + of, x.weight(3, 0), o.weight(3, 0));
    }

    /** Each row of arcs is put together by itself, so that these are all cases there are. */
    private static void everyRowWithEveryGraph() {
        for (int row = 0; row < ROWS; row++) {
            for (int first = 0; first < GRAPHS; first += ROWS) {
                ShrinkingCalls x = new ShrinkingCalls();
                for (int other = first; other < first + ROWS; other++) {
                    for (int one = row; one < GRAPHS; one = one == 0 ? GRAPHS : one * ROWS) {
                        Checks.due("together(" + one + ", " + other + ")", x.together(one, other), Oracle.join(one, other));
                    }
                }
            }
        }
    }
}
