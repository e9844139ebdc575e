import java.util.ArrayDeque;
import java.util.HashSet;
import java.util.List;
import java.util.Set;

/** The boundary cases of promises 9 to 13, and of the terms that they rest on: GRAPHS, LARGE, ROUND, BAD, SHORTEST. */
public final class GraphBoundariesTest {
    private static final int BAD = Checks.BAD, STATE = Checks.STATE, NONE = Checks.NONE;
    private static final int[] EXTREMES = {Checks.LEAST, Checks.LEAST + 1, Checks.GREATEST};

    /** Places in any order, one joined to another, one left out, one LESS: more than 1000 already from an act to itself. */
    private static final String FAR_MORE = "act A3;act B3;call AA 0=1 1=2 2=0;call AA 0=1 1=0 2=2;call AA 0=0 1=1 1=2 2=2;"
            + "call AA 0>0 1=1 2=2;call AA 1=1 2=2;call AB 0=0 1=1 2=2;call BA 0=0 1=1 2=2;call BB 0>1;";

    private static void due(String what, long got, long want) {
        Checks.due(what, got, want);
    }

    public static void main(String[] args) {
        textsAreAtTheLimits();
        graphsNoneAndOne();
        graphsAre1000AtMost();
        largeComesAndGoes();
        largeIsStateWhereGraphsAreAsked();
        largeIsNoStateElsewhere();
        graphsAreOneIfSame();
        graphFirstAndLast();
        graphWhat();
        graphRefusalsInOrder();
        graphsAreInOrder();
        roundAndBad();
        togetherLeastAndGreatest();
        togetherOfEachTwoArcs();
        lessByOneOfSeveralWays();
        endsOfEachAct();
        endsAt1000();
        shortestOfOneCall();
        shortestOfEightCalls();
        shortestOfNineCalls();
        shortestNone();
        shortestFewestThenFirst();
        shortestRefusalsInOrder();
        Checks.end();
    }

    /** Counted without a limit, so that the texts are known to be at it. */
    private static int countOf(String text) {
        ShrinkingCalls x = Checks.told(text);
        int[][] calls = new int[x.count(0)][];
        for (int i = 0; i < calls.length; i++) calls[i] = new int[] {x.call(i, 0), x.call(i, 1), x.call(i, 2)};
        Set<Integer> all = new HashSet<>();
        ArrayDeque<int[]> todo = new ArrayDeque<>(List.of(calls));
        while (!todo.isEmpty()) {
            int[] g = todo.remove();
            if (!all.add((g[0] * 4 + g[1]) * 19683 + g[2])) continue;
            for (int[] c : calls) if (c[0] == g[1]) todo.add(new int[] {g[0], c[1], Oracle.join(g[2], c[2])});
        }
        return all.size();
    }

    private static void textsAreAtTheLimits() {
        due("graphs of LARGE_BY_ONE", countOf(Texts.LARGE_BY_ONE), 1001);
        due("graphs of JUST_1000", countOf(Texts.JUST_1000), 1000);
        due("graphs of FAR_MORE are more than 2000", countOf(FAR_MORE) > 2000 ? 1 : 0, 1);
        due("graphs of ENDS_999", countOf(Texts.ENDS_999), 999);
        due("graphs of ENDS_999 and one call", countOf(Texts.ENDS_999 + "call BC;"), 1000);
        due("graphs of ENDS_999 and two calls", countOf(Texts.ENDS_999 + "call BC;call BD;"), 1001);
    }

    // ---- promise 9

    private static void graphsNoneAndOne() {
        due("graphs of none", new ShrinkingCalls().graphs(), 0);
        due("graphs of acts alone", Checks.told("act A3;act D3;").graphs(), 0);
        due("graphs of one call", Checks.told("call AB;").graphs(), 1);
        due("graphs of one call to itself", Checks.told("call DD;").graphs(), 1);
        due("graphs of one call round by two", Checks.told("act A2;call AA 0=1 1=0;").graphs(), 2);
        due("graphs of one call round by three", Checks.told("act A3;call AA 0=1 1=2 2=0;").graphs(), 3);
        due("graphs between all acts", Checks.told("call AB;call BC;call CD;call DA;").graphs(), 16);
    }

    private static void graphsAre1000AtMost() {
        due("graphs: 999", Checks.told(Texts.ENDS_999).graphs(), 999);
        due("graphs: 1000", Checks.told(Texts.JUST_1000).graphs(), 1000);
        due("graphs: 1000, all end", Checks.told(Texts.ENDS_999 + "call BC;").graphs(), 1000);
        due("graphs: 1001", Checks.told(Texts.LARGE_BY_ONE).graphs(), STATE);
        due("graphs: 1001, too", Checks.told(Texts.ENDS_999 + "call BC;call BD;").graphs(), STATE);
        due("graphs: 1001, the last call being the one too many", Checks.told(Texts.JUST_1000 + "call CD;").graphs(), STATE);
        due("graphs: far more", Checks.told(FAR_MORE).graphs(), STATE);
    }

    private static void largeComesAndGoes() {
        ShrinkingCalls x = Checks.told(Texts.ENDS_999 + "call BC;call BD;");
        due("large", x.graphs(), STATE);
        // call 0 without arcs: fewer graphs by far
        for (int pair = 0; pair < 9; pair++) x.put(0, pair / 3, pair % 3, 0);
        due("no longer large", x.graphs() > 0 ? 1 : 0, 1);
        x.put(0, 0, 2, 1);
        x.put(0, 1, 0, 1);
        x.put(0, 2, 1, 2);
        due("large again", x.graphs(), STATE);
        due("large again: ends", x.ends(-1), STATE);
        Checks.typed(x, "call AA;");
        x.read();
        due("read: no longer large", x.graphs(), 1);
        due("read: ends", x.ends(-1), 0);
        Checks.typed(x, Texts.LARGE_BY_ONE);
        x.read();
        due("read: large again", x.graphs(), STATE);
    }

    private static void largeIsStateWhereGraphsAreAsked() {
        for (String text : new String[] {Texts.LARGE_BY_ONE, Texts.ENDS_999 + "call BC;call BD;", FAR_MORE}) {
            ShrinkingCalls x = Checks.told(text);
            due("large: graphs()", x.graphs(), STATE);
            for (int what = 0; what <= 4; what++) due("large: graph(0, " + what + ")", x.graph(0, what), STATE);
            for (int act = -1; act <= 3; act++) due("large: ends(" + act + ")", x.ends(act), STATE);
            for (int k = -1; k <= 8; k++) due("large: shortest(" + k + ")", x.shortest(k), STATE);
            for (int act = 0; act <= 3; act++) due("large: slow(" + act + ")", x.slow(act), STATE);
            for (int what = 0; what <= 1; what++) due("large: mended(" + what + ")", x.mended(what), STATE);
            for (int k = -1; k <= 2; k++) due("large: needed(" + k + ")", x.needed(k), STATE);
        }
    }

    private static void largeIsNoStateElsewhere() {
        ShrinkingCalls x = Checks.told(Texts.LARGE_BY_ONE);
        due("large: call(0, 2)", x.call(0, 2), 1 + 243 + 2187);
        due("large: arc(3, 0, 2)", x.arc(3, 0, 2), 2);
        due("large: put(3, 0, 2, 2)", x.put(3, 0, 2, 2), 2);
        due("large: together(1, 1)", x.together(1, 1), 1);
        due("large: go(0)", x.go(0), 1);
        due("large: go(1)", x.go(1), 2);
        // 0=0 1=2 2=1 with 1=1 1=0 2=2 0>1: 0>1, 1=2, 2=0 2=1
        due("large: trip(0)", x.trip(0), 2 * 3 + 243 + 729 + 2187);
        due("large: anew()", x.anew(), 2);
        due("large: longest(0, 0, 0, 0)", x.longest(0, 0, 0, 0), Checks.ENDLESS);
        due("large: next(1, 0, 0, 0)", x.next(1, 0, 0, 0), 0);
        due("large: weight(0, 1)", x.weight(0, 1), 4);
        due("large: most(3)", x.most(3), 2);
        due("large: count(0)", x.count(0), 4);
        due("large: trace()", x.trace(), 1);
    }

    private static void graphsAreOneIfSame() {
        due("the same call twice", Checks.told("act A1;call AA 0>0;call AA 0>0;").graphs(), 1);
        due("the same arcs, another act from", Checks.told("act A1;act B1;act C1;call AC 0>0;call BC 0>0;").graphs(), 2);
        due("the same arcs, another act to", Checks.told("act A1;act B1;act C1;call AB 0>0;call AC 0>0;").graphs(), 2);
        due("the same acts, KEPT and LESS", Checks.told("act A1;act B1;call AB 0>0;call AB 0=0;call AB;").graphs(), 3);
        due("two ways to one graph", Checks.told("call AB;call BD;call AC;call CD;call AD;").graphs(), 5);
    }

    // ---- promise 10

    private static void graphFirstAndLast() {
        ShrinkingCalls x = Checks.told("act A1;act D1;call DD 0>0;call AA 0=0;");
        due("the first graph's act", x.graph(0, 0), 0);
        due("the last graph's act", x.graph(1, 0), 3);
        due("the last graph's number", x.graph(1, 2), 2);
        due("no graph behind it", x.graph(2, 0), BAD);
        due("no graph ahead of the first", x.graph(-1, 0), BAD);
        for (int k : new int[] {3, 999, 1000, 1001, 65536}) due("graph(" + k + ", 0)", x.graph(k, 0), BAD);
        for (int k : EXTREMES) due("graph(" + k + ", 0)", x.graph(k, 0), BAD);
        ShrinkingCalls full = Checks.told(Texts.JUST_1000);
        due("of 1000 the last", full.graph(999, 0), 1);
        due("of 1000 the last, to", full.graph(999, 1), 1);
        due("of 1000 none behind it", full.graph(1000, 0), BAD);
        ShrinkingCalls none = new ShrinkingCalls();
        due("of none the first", none.graph(0, 0), BAD);
    }

    private static void graphWhat() {
        ShrinkingCalls x = Checks.told("act C1;act B1;call CB 0>0;");
        int[] want = {2, 1, 2, 0, 0};
        for (int what = 0; what <= 4; what++) due("graph(0, " + what + ")", x.graph(0, what), want[what]);
        due("graph(0, -1)", x.graph(0, -1), BAD);
        due("graph(0, 5)", x.graph(0, 5), BAD);
        for (int what : EXTREMES) due("graph(0, " + what + ")", x.graph(0, what), BAD);
    }

    private static void graphRefusalsInOrder() {
        ShrinkingCalls large = Checks.told(Texts.LARGE_BY_ONE);
        due("k below 0 ahead of LARGE", large.graph(-1, 0), BAD);
        due("k far below 0 ahead of LARGE", large.graph(Checks.LEAST, 0), BAD);
        due("what below ahead of LARGE", large.graph(0, -1), BAD);
        due("what above ahead of LARGE", large.graph(0, 5), BAD);
        due("LARGE ahead of no k-th one: 1000", large.graph(1000, 0), STATE);
        due("LARGE ahead of no k-th one: 1001", large.graph(1001, 0), STATE);
        due("LARGE ahead of no k-th one: the greatest", large.graph(Checks.GREATEST, 0), STATE);
    }

    private static void graphsAreInOrder() {
        // told backwards in all three: acts from, acts to, numbers
        ShrinkingCalls x = Checks.told("act A1;act B1;act C1;call CA 0>0;call BB 0>0;call BB 0=0;call BA;call AC 0=0;call AB 0>0;");
        long last = -1;
        int n = x.graphs();
        for (int k = 0; k < n; k++) {
            long at = (x.graph(k, 0) * 4L + x.graph(k, 1)) * 19683 + x.graph(k, 2);
            due("the " + k + "-th graph is behind the one ahead", at > last ? 1 : 0, 1);
            last = at;
        }
        // the highest pair 2, 2 weighs more than all others
        ShrinkingCalls y = Checks.told("act A3;act B3;call AB 2=2;call AB 0>0 0>1 0>2 1>0 1>1 1>2 2>0 2>1;");
        due("the greatest without 2, 2", y.graph(0, 2), 6560);
        due("the least with 2, 2", y.graph(1, 2), 6561);
    }

    private static void roundAndBad() {
        // text; ROUND and BAD of its one graph
        String[] texts = {"call AA;", "act A1;call AA 0>0;", "act A1;call AA 0=0;", "call AB;", "act A3;call AA 0=0 1=1 2>2;",
            "act A2;call AA 0=0 0>1;", "act A2;call AA 0>0 0>1;", "act A1;act B1;call AB 0>0;", "act A1;act B1;call AB 0=0;"};
        int[][] want = {{1, 1}, {1, 0}, {1, 1}, {0, 0}, {1, 0}, {1, 1}, {1, 0}, {0, 0}, {0, 0}};
        for (int i = 0; i < texts.length; i++) {
            ShrinkingCalls x = Checks.told(texts[i]);
            due("graphs of " + texts[i], x.graphs(), 1);
            due("ROUND of " + texts[i], x.graph(0, 3), want[i][0]);
            due("BAD of " + texts[i], x.graph(0, 4), want[i][1]);
        }
        // not ROUND, so not BAD, though no place has LESS to itself: 0>1 is first, then the empty one
        ShrinkingCalls x = Checks.told("act A2;call AA 0>1;");
        due("the empty one is ROUND", x.graph(0, 3), 1);
        due("the empty one is BAD", x.graph(0, 4), 1);
        due("0>1 is not ROUND", x.graph(1, 3), 0);
        due("0>1 is not BAD", x.graph(1, 4), 0);
        for (int place = 0; place < 3; place++) {
            x = Checks.told("act A3;call AA " + place + ">" + place + ";");
            due("LESS of place " + place + " to itself: BAD", x.graph(0, 4), 0);
            x = Checks.told("act A3;call AA " + place + "=" + place + ";");
            due("KEPT of place " + place + " to itself: BAD", x.graph(0, 4), 1);
        }
    }

    // ---- promise 11

    private static void togetherLeastAndGreatest() {
        ShrinkingCalls x = new ShrinkingCalls();
        due("together(0, 0)", x.together(0, 0), 0);
        due("together(0, 19682)", x.together(0, 19682), 0);
        due("together(19682, 0)", x.together(19682, 0), 0);
        due("together(19682, 19682)", x.together(19682, 19682), 19682);
        for (int n : new int[] {-1, 19683, 19684, Checks.LEAST, Checks.GREATEST}) {
            due("together(" + n + ", 0)", x.together(n, 0), BAD);
            due("together(0, " + n + ")", x.together(0, n), BAD);
            due("together(" + n + ", " + n + ")", x.together(n, n), BAD);
        }
    }

    private static void togetherOfEachTwoArcs() {
        for (int v = 1; v <= 2; v++) {
            for (int w = 1; w <= 2; w++) {
                ShrinkingCalls x = new ShrinkingCalls();
                for (int i = 0; i < 81; i++) {
                    int one = i / 9;
                    int other = i % 9;
                    int want = one % 3 == other / 3 ? Math.max(v, w) * power(one / 3 * 3 + other % 3) : 0;
                    due("arcs " + one + ", " + other + " together", x.together(v * power(one), w * power(other)), want);
                }
            }
        }
    }

    private static int power(int n) {
        int all = 1;
        for (int i = 0; i < n; i++) all *= 3;
        return all;
    }

    private static void lessByOneOfSeveralWays() {
        ShrinkingCalls x = new ShrinkingCalls();
        // from 0 by 0, 1, 2 to 0: KEPT by each, LESS by one of them ahead or behind
        int ahead = 1 + 3 + 9;
        int behind = 1 + 27 + 729;
        due("KEPT by all ways", x.together(ahead, behind), 1);
        for (int y = 0; y < 3; y++) {
            due("LESS ahead by " + y, x.together(ahead + power(y), behind), 2);
            due("LESS behind by " + y, x.together(ahead, behind + power(3 * y)), 2);
            // a LESS that leads nowhere does not count
            due("LESS ahead that leads nowhere by " + y, x.together(ahead + power(y), behind - power(3 * y)), 1);
            due("LESS behind that nothing leads to by " + y, x.together(ahead - power(y), behind + power(3 * y)), 1);
        }
    }

    // ---- promise 12

    private static void endsOfEachAct() {
        for (int act = 0; act <= 3; act++) {
            ShrinkingCalls x = Checks.told("call " + (char) ('A' + act) + (char) ('A' + act) + ";");
            due("ends(-1)", x.ends(-1), 0);
            for (int asked = 0; asked <= 3; asked++) due("ends(" + asked + ")", x.ends(asked), asked == act ? 0 : 1);
        }
        ShrinkingCalls ring = Checks.told("call AB;call BA;");
        due("ring: ends(0)", ring.ends(0), 0);
        due("ring: ends(1)", ring.ends(1), 0);
        due("ring: ends(2)", ring.ends(2), 1);
        for (int act : new int[] {-2, 4, Checks.LEAST, Checks.GREATEST}) {
            due("ends(" + act + ")", ring.ends(act), BAD);
            due("large: ends(" + act + ")", Checks.told(Texts.LARGE_BY_ONE).ends(act), BAD);
        }
        due("ends of calls that do not come back", Checks.told("call AB;call BC;call CD;call AD;").ends(-1), 1);
    }

    private static void endsAt1000() {
        ShrinkingCalls x = Checks.told(Texts.ENDS_999 + "call BC;");
        for (int act = -1; act <= 3; act++) due("1000 graphs: ends(" + act + ")", x.ends(act), 1);
        x = Checks.told(Texts.JUST_1000);
        due("1000 graphs, not all end: ends(-1)", x.ends(-1), 0);
        due("1000 graphs, not all end: ends(3)", x.ends(3), 1);
    }

    // ---- promise 13

    private static void shortestIs(String text, int... calls) {
        ShrinkingCalls x = Checks.told(text);
        due("shortest(-1) of " + text, x.shortest(-1), calls.length);
        for (int k = 0; k < calls.length; k++) due("shortest(" + k + ") of " + text, x.shortest(k), calls[k]);
        due("shortest(" + calls.length + ") of " + text, x.shortest(calls.length), BAD);
        due("shortest(9) of " + text, x.shortest(9), BAD);
        due("shortest(the greatest) of " + text, x.shortest(Checks.GREATEST), BAD);
        due("shortest(-2) of " + text, x.shortest(-2), BAD);
        due("shortest(the least) of " + text, x.shortest(Checks.LEAST), BAD);
    }

    private static void shortestNoneOf(String text) {
        ShrinkingCalls x = Checks.told(text);
        for (int k : new int[] {-1, 0, 7, 8, 9, 1000, Checks.GREATEST}) due("shortest(" + k + ") of " + text, x.shortest(k), NONE);
        due("shortest(-2) of " + text, x.shortest(-2), BAD);
        due("shortest(the least) of " + text, x.shortest(Checks.LEAST), BAD);
    }

    private static void shortestOfOneCall() {
        shortestIs("call AA;", 0);
        shortestIs("call AB;call DD;", 1);
        shortestIs("act A1;call AA 0>0;call AB;call BC;call CD;call BD;call AC;call AD;call AA 0=0;", 7);
    }

    private static void shortestOfEightCalls() {
        shortestIs(Texts.SHORTEST_OF_8, 0, 1, 0, 1, 0, 2, 0, 1);
    }

    private static void shortestOfNineCalls() {
        shortestNoneOf(Texts.SHORTEST_OF_9);
        due("nine calls: it does not end", Checks.told(Texts.SHORTEST_OF_9).ends(-1), 0);
    }

    private static void shortestNone() {
        shortestNoneOf("");
        shortestNoneOf("call AB;call BC;call CD;");
        shortestNoneOf("act A1;call AA 0>0;");
        shortestNoneOf(Texts.ENDS_999 + "call BC;");
    }

    private static void shortestFewestThenFirst() {
        // of one call the last, though a way of two begins with a lesser number
        shortestIs("call AB;call BA;call CC;", 2);
        shortestIs("call AA;call BB;call CC;", 0);
        shortestIs("call AD;call BB;call CC;call AA;", 1);
        // of two calls the first by numbers: 0 3, not 3 0, nor 1 2
        shortestIs("call AB;call CD;call DC;call BA;", 0, 3);
        shortestIs("call AB;call BA;call AB;call BA;", 0, 1);
        shortestIs("act A1;act B1;call AB 0>0;call BA 0=0;call AB 0=0;", 1, 2);
        shortestIs("call AB;call BC;call CD;call DA;", 0, 1, 2, 3);
        shortestIs("call DA;call CD;call BC;call AB;", 0, 3, 2, 1);
    }

    private static void shortestRefusalsInOrder() {
        ShrinkingCalls large = Checks.told(Texts.LARGE_BY_ONE);
        due("k below -1 ahead of LARGE", large.shortest(-2), BAD);
        due("k far below ahead of LARGE", large.shortest(Checks.LEAST), BAD);
        due("LARGE ahead of no k-th one", large.shortest(8), STATE);
        due("LARGE ahead of no k-th one: the greatest", large.shortest(Checks.GREATEST), STATE);
        due("large: how many", large.shortest(-1), STATE);
    }
}
