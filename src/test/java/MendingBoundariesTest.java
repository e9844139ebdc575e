/** The boundary cases of promises 17 to 19, and of the terms that they rest on: SLOW, MENDED, NEEDED. */
public final class MendingBoundariesTest {
    private static final int BAD = Checks.BAD, STATE = Checks.STATE, NONE = Checks.NONE;

    private static void due(String what, long got, long want) {
        Checks.due(what, got, want);
    }

    public static void main(String[] args) {
        slowOfEachAct();
        slowEmpty();
        slowByEachOrder();
        slowFirstByHowManyThenAsRows();
        slowNone();
        slowByGraphsOfLongerWays();
        slowAt1000();
        slowRefusalsInOrder();
        mendedOfNone();
        mendedOfAllEight();
        mendedByEachCall();
        mendedFewestThenLeast();
        mendedWhat();
        mendedAt1000();
        mendedLargeAsAllCallsAre();
        neededOfNone();
        neededFirstAndLast();
        neededAsManyAsThereMayBe();
        neededByItself();
        neededOfLessAlone();
        neededAnew();
        neededInOrder();
        neededStateIfItDoesNotEnd();
        neededStateIfLarge();
        neededStateIfLargeWithOneKept();
        neededChangesNoArc();
        Checks.end();
    }

    // ---- promise 17

    private static void slowIs(String text, int act, int want) {
        due("slow(" + act + ") of " + text, Checks.told(text).slow(act), want);
    }

    private static void slowOfEachAct() {
        for (int act = 0; act <= 3; act++) {
            char p = (char) ('A' + act);
            ShrinkingCalls x = Checks.told("act " + p + "1;call " + p + p + " 0>0;");
            for (int asked = 0; asked <= 3; asked++) due("slow(" + asked + ")", x.slow(asked), asked == act ? 1 : 0);
            for (int none : new int[] {-1, 4, Checks.LEAST, Checks.GREATEST}) due("slow(" + none + ")", x.slow(none), BAD);
        }
    }

    private static void slowEmpty() {
        slowIs("", 0, 0);
        slowIs("act A3;", 0, 0);
        slowIs("act A3;act B3;call AB 0=0;", 0, 0);
        slowIs("act A3;act B3;call AB 0=0;call BB;", 0, 0);
        // with a graph to itself the empty one has no place that is LESS
        slowIs("call AA;", 0, NONE);
        slowIs("call AB;call BA;", 1, NONE);
    }

    private static void slowByEachOrder() {
        for (int a = 0; a < 3; a++) {
            slowIs("act A3;call AA " + a + ">" + a + ";", 0, a + 1);
            for (int b = 0; b < 3; b++) {
                if (b == a) continue;
                String two = "act A3;call AA " + a + ">" + a + ";call AA " + a + "=" + a + " " + b + ">" + b + ";";
                slowIs(two, 0, a + 1 + 4 * (b + 1));
                int c = 3 - a - b;
                slowIs(two + "call AA 0=0 1=1 2=2 " + c + ">" + c + ";", 0, a + 1 + 4 * (b + 1) + 16 * (c + 1));
            }
        }
    }

    private static void slowFirstByHowManyThenAsRows() {
        slowIs("act A3;call AA 0>0 1>1 2>2;", 0, 1);
        slowIs("act A3;call AA 1>1 2>2;", 0, 2);
        // one place ahead of two, though 0, 1 would do, too
        slowIs("act A3;call AA 0=0 1=1 2>2;", 0, 3);
        // each two of the three would do: 0, 1 is first, and of 1, 2 and 2, 1 the first
        slowIs("act A3;call AA 0>0 1=1 2=2;call AA 0=0 1>1 2=2;", 0, 1 + 4 * 2);
        slowIs("act A3;call AA 1>1 2=2;call AA 1=1 2>2;", 0, 2 + 4 * 3);
        // 0, 2 would not do, as 0 has no arc in the first: 1, 0 comes ahead of 2, 0
        slowIs("act A3;call AA 1>1 2>2;call AA 0>0 1=1 2=2;", 0, 2 + 4);
    }

    private static void slowNone() {
        slowIs("act A1;call AA;", 0, NONE);
        slowIs("act A3;call AA 0=0 1=1 2=2;", 0, NONE);
        slowIs("act A3;call AA 0>1 1>2 2>0;", 0, NONE);
        slowIs("act A2;call AA 0>0;call AA 1>1;", 0, NONE);
        slowIs("act A2;call AA 0>0;call AA 0=0 1=1;", 0, NONE);
        // it ends, but by no order
        ShrinkingCalls x = Checks.told("act A2;call AA 0>1 1>0;");
        due("ends without an order", x.ends(0), 1);
        due("slow of it", x.slow(0), NONE);
    }

    private static void slowByGraphsOfLongerWays() {
        slowIs("act A2;act B1;call AB 1=0;call BA 0>1;", 0, 2);
        slowIs("act A2;act B1;call AB 1=0;call BA 0>1;", 1, 1);
        slowIs("act A1;act B1;call AB 0=0;call BA 0>0;call AB;", 0, NONE);
        // of its own places alone: B has place 2, A has not
        slowIs("act A2;act B3;call AB 0=2 1=0;call BA 2>0;call BB 2=2;", 0, 1);
    }

    private static void slowAt1000() {
        ShrinkingCalls x = Checks.told(Texts.ENDS_999 + "call BC;");
        due("1000 graphs: slow(0)", x.slow(0), NONE);
        due("1000 graphs: slow(1)", x.slow(1), 0);
    }

    private static void slowRefusalsInOrder() {
        ShrinkingCalls large = Checks.told(Texts.LARGE_BY_ONE);
        for (int none : new int[] {-1, 4, Checks.LEAST, Checks.GREATEST}) due("large: slow(" + none + ")", large.slow(none), BAD);
        for (int act = 0; act <= 3; act++) due("large: slow(" + act + ")", large.slow(act), STATE);
    }

    // ---- promise 18

    private static void mendedIs(String text, int set) {
        ShrinkingCalls x = Checks.told(text);
        due("mended(0) of " + text, x.mended(0), Integer.bitCount(set));
        due("mended(1) of " + text, x.mended(1), set);
    }

    private static void mendedOfNone() {
        mendedIs("", 0);
        mendedIs("act A3;", 0);
        mendedIs("call AB;call BC;call CD;", 0);
        mendedIs("act A1;call AA 0>0;", 0);
        mendedIs(Texts.LARGE_IF_KEPT, 0);
    }

    private static void mendedOfAllEight() {
        for (int n = 1; n <= 8; n++) mendedIs(Texts.EIGHT_CALLS.substring(0, 8 * n), (1 << n) - 1);
    }

    private static void mendedByEachCall() {
        for (int bad = 0; bad < 8; bad++) {
            StringBuilder text = new StringBuilder("act A1;");
            for (int i = 0; i < 8; i++) text.append(i == bad ? "call AA 0=0;" : "call AA 0>0;");
            mendedIs(text.toString(), 1 << bad);
        }
    }

    private static void mendedFewestThenLeast() {
        // the last call alone, ahead of the first two
        mendedIs("call AB;call AC;call BD;call CD;call DA;", 16);
        // of a ring any one: the first
        mendedIs("call AB;call BC;call CD;call DA;", 1);
        // two rings apart
        mendedIs("call AB;call CD;call BA;call DC;", 3);
        // of 0 with 3, which is 9, and 1 with 2, which is 6, the least as a number
        mendedIs("call AB;call BA;call BA;call AB;", 2 + 4);
        mendedIs("call AB;call CD;call DC;call BA;call AB;", 2 + 8);
        mendedIs("act A2;call AA 0>0 1=1;call AA 0=0 1=1;call AA 0=0 1>1;", 2);
        // either of two calls mends it: the first
        mendedIs("act A2;call AA 0>0;call AA 1>1;", 1);
        mendedIs("act A2;call AA 1>1;call AA 0>0;call AA 1>1;", 2);
    }

    private static void mendedWhat() {
        ShrinkingCalls x = Checks.told("call AB;call CC;");
        due("mended(0)", x.mended(0), 1);
        due("mended(1)", x.mended(1), 2);
        for (int what : new int[] {-1, 2, Checks.LEAST, Checks.GREATEST}) {
            due("mended(" + what + ")", x.mended(what), BAD);
            due("large: mended(" + what + ")", Checks.told(Texts.LARGE_BY_ONE).mended(what), BAD);
        }
        due("left out only for asking: count(0)", x.count(0), 2);
        due("left out only for asking: graphs()", x.graphs(), 2);
        due("left out only for asking: ends(2)", x.ends(2), 0);
    }

    private static void mendedAt1000() {
        mendedIs(Texts.ENDS_999 + "call BC;", 0);
        ShrinkingCalls x = Checks.told(Texts.JUST_1000);
        int set = x.mended(1);
        due("1000 graphs: mended(0)", x.mended(0), Integer.bitCount(set));
        due("1000 graphs: some must be left out", set > 0 ? 1 : 0, 1);
    }

    /** Without its last call it is not LARGE, and ends: but all calls are LARGE. */
    private static void mendedLargeAsAllCallsAre() {
        due("all but the last: mended(0)", Checks.told(Texts.ENDS_999 + "call BC;").mended(0), 0);
        ShrinkingCalls x = Checks.told(Texts.ENDS_999 + "call BC;call BD;");
        due("all: mended(0)", x.mended(0), STATE);
        due("all: mended(1)", x.mended(1), STATE);
        x = Checks.told(Texts.ENDS_999 + "call BB;call BC;");
        due("all, with one that must be left out: mended(0)", x.mended(0), STATE);
    }

    // ---- promise 19

    private static void neededIs(String text, int... arcs) {
        ShrinkingCalls x = Checks.told(text);
        due("needed(-1) of " + text, x.needed(-1), arcs.length);
        for (int k = 0; k < arcs.length; k++) due("needed(" + k + ") of " + text, x.needed(k), arcs[k]);
        due("needed(" + arcs.length + ") of " + text, x.needed(arcs.length), BAD);
        due("needed(72) of " + text, x.needed(72), BAD);
        due("needed(the greatest) of " + text, x.needed(Checks.GREATEST), BAD);
        due("needed(-2) of " + text, x.needed(-2), BAD);
        due("needed(the least) of " + text, x.needed(Checks.LEAST), BAD);
    }

    private static void neededStates(String text) {
        ShrinkingCalls x = Checks.told(text);
        for (int k : new int[] {-1, 0, 1, 71, 72, Checks.GREATEST}) due("needed(" + k + ") of " + text, x.needed(k), STATE);
        due("needed(-2) of " + text, x.needed(-2), BAD);
        due("needed(the least) of " + text, x.needed(Checks.LEAST), BAD);
    }

    private static void neededOfNone() {
        neededIs("");
        neededIs("call AB;call BC;");
        neededIs("act A1;act B1;call AB 0>0;");
        neededIs("act A2;call AA 0>0 1>1;");
    }

    private static void neededFirstAndLast() {
        neededIs("act A1;call AA 0>0;", 0);
        String seven = "call BC;call BC;call BC;call BC;call BC;call BC;call BC;";
        neededIs("act A3;" + seven + "call AA 2>2;", 71);
        for (int pair = 0; pair < 9; pair++) {
            // a round by A and B with one thread, LESS only in the call told last
            int x = pair / 3;
            int y = pair % 3;
            neededIs("act A3;act B3;call BA " + y + "=" + x + ";call AB " + x + ">" + y + ";", 9 + pair);
        }
    }

    private static void neededAsManyAsThereMayBe() {
        neededIs("act A1;" + Texts.EIGHT_CALLS.replace(";", " 0>0;"), 0, 9, 18, 27, 36, 45, 54, 63);
        // of each call of an order the one that is LESS
        neededIs("act A3;call AA 0>0;call AA 0=0 1>1;call AA 0=0 1=1 2>2;", 0, 9 + 4, 18 + 8);
    }

    private static void neededByItself() {
        // either of the two LESS is enough: none is needed by itself
        neededIs("act A1;act B1;call AB 0>0;call BA 0>0;");
        neededIs("act A2;call AA 0>1 1>0;");
        neededIs("act A2;call AA 0>1 1=0;", 1);
        // a LESS that leads nowhere is not needed
        neededIs("act A2;call AA 0>0 0>1;", 0);
    }

    /** An arc that is KEPT, or none, is not tried: with one more KEPT it would be LARGE. */
    private static void neededOfLessAlone() {
        ShrinkingCalls x = Checks.told(Texts.LARGE_IF_ONE_MORE);
        boolean large = false;
        for (int i = 0; i < 36; i++) {
            if (x.arc(i / 9, i % 9 / 3, i % 3) != 0) continue;
            x.put(i / 9, i % 9 / 3, i % 3, 1);
            large |= x.graphs() == STATE;
            x.put(i / 9, i % 9 / 3, i % 3, 0);
        }
        due("with one more KEPT it is large", large ? 1 : 0, 1);
        neededIs(Texts.LARGE_IF_ONE_MORE, 9 + 6, 27 + 3);
    }

    /** What was found for other arcs, or for another text, is not told again. */
    private static void neededAnew() {
        ShrinkingCalls x = Checks.told("act A2;call AA 0>0 1>1;");
        due("needed: none", x.needed(-1), 0);
        x.put(0, 0, 0, 1);
        due("needed after put", x.needed(-1), 1);
        due("which after put", x.needed(0), 4);
        x.put(0, 0, 0, 2);
        x.put(0, 1, 1, 1);
        due("which after put, too", x.needed(0), 0);
        x.put(0, 1, 1, 2);
        due("none again", x.needed(0), BAD);
        Checks.typed(x, "act B3;call AC;call BB 2>2;");
        x.read();
        due("which after read", x.needed(0), 17);
        Checks.typed(x, Texts.LARGE_IF_KEPT);
        x.read();
        due("STATE after read", x.needed(0), STATE);
        Checks.typed(x, "");
        x.read();
        due("none after read", x.needed(-1), 0);
        due("mended after read", x.mended(1), 0);
        Checks.typed(x, "call AB;call CC;");
        x.read();
        due("mended after read, too", x.mended(1), 2);
    }

    private static void neededInOrder() {
        // told last first, by calls, by X and by Y
        neededIs("act A3;act B3;call BB 2>2;call AA 1>1;call AA 1=1 0>0;", 8, 9 + 4, 18);
        neededIs("act A1;act B2;call AB 0>1 0>0;call BA 0=0;call BA 1=0;", 0, 1);
        neededIs("act A2;act B2;call AB 1>1 0>0;call BA 0=0 0=1;call BA 1=0 1=1;", 0, 4);
        neededIs("act A2;act B2;call AB 1>0 0>1;call BA 0=0 0=1;call BA 1=0 1=1;", 1, 3);
    }

    private static void neededStateIfItDoesNotEnd() {
        neededStates("call AA;");
        neededStates("act A1;call AA 0=0;call BC;");
        neededStates("act A1;call AA 0>0;call DD;");
        neededStates(Texts.SHORTEST_OF_9);
        neededStates(Texts.JUST_1000);
    }

    private static void neededStateIfLarge() {
        neededStates(Texts.LARGE_BY_ONE);
        neededStates(Texts.ENDS_999 + "call BC;call BD;");
    }

    private static void neededStateIfLargeWithOneKept() {
        ShrinkingCalls x = Checks.told(Texts.IF_KEPT_1000);
        int most = mostIfKept(x);
        due("with one KEPT 1000 at most", most, 1000);
        neededIs(Texts.IF_KEPT_1000, 0, 27 + 6);
        // one graph more
        x = Checks.told(Texts.IF_KEPT_1000 + "call BC;");
        due("with one KEPT 1001", mostIfKept(x), STATE);
        due("it ends", x.ends(-1), 1);
        due("it is not large", x.graphs(), 576);
        neededStates(Texts.IF_KEPT_1000 + "call BC;");
        neededStates(Texts.LARGE_IF_KEPT);
    }

    /** The most graphs with one arc KEPT; STATE, if that is LARGE. */
    private static int mostIfKept(ShrinkingCalls x) {
        int most = 0;
        for (int i = 0; i < 9 * x.count(0); i++) {
            if (x.arc(i / 9, i % 9 / 3, i % 3) != 2) continue;
            x.put(i / 9, i % 9 / 3, i % 3, 1);
            int n = x.graphs();
            x.put(i / 9, i % 9 / 3, i % 3, 2);
            if (n == STATE) return STATE;
            most = Math.max(most, n);
        }
        return most;
    }

    private static void neededChangesNoArc() {
        for (String text : new String[] {Texts.LARGE_IF_KEPT, Texts.IF_KEPT_1000, "act A2;call AA 0>1 1>0;call AA 0>0;call AA 1=0;"}) {
            ShrinkingCalls x = Checks.told(text);
            ShrinkingCalls never = Checks.told(text);
            x.needed(-1);
            x.needed(0);
            for (int i = 0; i < x.count(0); i++) due("call(" + i + ", 2) as it was", x.call(i, 2), never.call(i, 2));
            due("graphs() as it was", x.graphs(), never.graphs());
            due("ends(-1) as it was", x.ends(-1), never.ends(-1));
        }
    }
}
