/** The boundary cases of promises 20 to 25, and of the terms that they rest on: SIZES, M, LONGEST, KINDS, THE TRACE. */
public final class RunBoundariesTest {
    private static final int BAD = Checks.BAD, ENDLESS = Checks.ENDLESS;
    private static final int[] EXTREMES = {Checks.LEAST, Checks.LEAST + 1, Checks.GREATEST};
    /** Each act has as many places as its number. */
    private static final String STAIRS = "act B1;act C2;act D3;";

    private static void due(String what, long got, long want) {
        Checks.due(what, got, want);
    }

    public static void main(String[] args) {
        mostLeastAndGreatest();
        mostBoundsSizes();
        actsOfRuns();
        sizesOfRuns();
        longestNone();
        longestByM();
        longestOfAllSizes();
        longestThroughAllActs();
        longestAnew();
        longestAtMZero();
        endlessFromTheFirst();
        endlessLater();
        endlessOnlyFromSomeSizes();
        sizesThatNoArcComesTo();
        nextNone();
        nextOfAll();
        nextByEachArc();
        nextOfSeveralCalls();
        weightOfEachKind();
        weightLeastAndGreatest();
        weightRefused();
        countEmptyAndFull();
        countRefused();
        traceOfEachKind();
        traceStays();
        answersUpToTheLastCall();
        Checks.end();
    }

    // ---- promise 20

    private static void mostLeastAndGreatest() {
        ShrinkingCalls x = new ShrinkingCalls();
        due("M at first", x.count(5), 2);
        int was = 2;
        for (int v : new int[] {0, 3, 1, 2, 2, 0, 0, 3, 3}) {
            due("most(" + v + ")", x.most(v), was);
            due("M then", x.count(5), v);
            was = v;
        }
        for (int m = 0; m <= 3; m++) {
            x.most(m);
            for (int v : new int[] {-1, 4, 5, Checks.LEAST, Checks.GREATEST}) {
                due("most(" + v + ")", x.most(v), BAD);
                due("M as it was", x.count(5), m);
            }
        }
    }

    private static void mostBoundsSizes() {
        ShrinkingCalls x = Checks.told("act A1;call AA 0>0;");
        for (int m : new int[] {2, 3, 0, 1}) {
            x.most(m);
            due("M " + m + ": the greatest size", x.longest(0, m, 0, 0), m);
            due("M " + m + ": one above it", x.longest(0, m + 1, 0, 0), BAD);
            due("M " + m + ": next of the greatest", x.next(0, m, 0, 0), m);
            due("M " + m + ": next of one above it", x.next(0, m + 1, 0, 0), BAD);
        }
    }

    // ---- promises 21 and 22: what is BAD

    private static void actsOfRuns() {
        ShrinkingCalls x = new ShrinkingCalls();
        for (int act = -1; act <= 4; act++) {
            int want = act >= 0 && act <= 3 ? 0 : BAD;
            due("longest(" + act + ", 0, 0, 0)", x.longest(act, 0, 0, 0), want);
            due("next(" + act + ", 0, 0, 0)", x.next(act, 0, 0, 0), want);
        }
        for (int act : EXTREMES) {
            due("longest(" + act + ", 0, 0, 0)", x.longest(act, 0, 0, 0), BAD);
            due("next(" + act + ", 0, 0, 0)", x.next(act, 0, 0, 0), BAD);
        }
    }

    private static void sizesOfRuns() {
        for (int m = 0; m <= 3; m++) {
            int[] sizes = {-1, 0, m, m + 1, 4};
            for (int act = 0; act <= 3; act++) {
                ShrinkingCalls x = Checks.told(STAIRS);
                x.most(m);
                for (int i = 0; i < 125; i++) {
                    int a = sizes[i % 5];
                    int b = sizes[i / 5 % 5];
                    int c = sizes[i / 25];
                    boolean is = fits(a, act > 0, m) && fits(b, act > 1, m) && fits(c, act > 2, m);
                    String asked = "(" + act + ", " + a + ", " + b + ", " + c + ") of M " + m;
                    due("longest" + asked, x.longest(act, a, b, c), is ? 0 : BAD);
                    due("next" + asked, x.next(act, a, b, c), is ? 0 : BAD);
                }
                for (int e : EXTREMES) {
                    due("longest, first size " + e, x.longest(act, e, 0, 0), BAD);
                    due("longest, second size " + e, x.longest(act, 0, e, 0), BAD);
                    due("longest, third size " + e, x.longest(act, 0, 0, e), BAD);
                    due("next, first size " + e, x.next(act, e, 0, 0), BAD);
                    due("next, second size " + e, x.next(act, 0, e, 0), BAD);
                    due("next, third size " + e, x.next(act, 0, 0, e), BAD);
                }
            }
        }
    }

    private static boolean fits(int size, boolean place, int m) {
        return size >= 0 && size <= (place ? m : 0);
    }

    // ---- promise 21

    private static void longestNone() {
        due("no calls at all", new ShrinkingCalls().longest(0, 0, 0, 0), 0);
        ShrinkingCalls x = Checks.told("act A1;call AB;call AA 0>0;call CC;");
        due("no calls from there", x.longest(1, 0, 0, 0), 0);
        due("one call from there", x.longest(0, 0, 0, 0), 1);
        x = Checks.told("act A1;act B1;call AB 0>0;");
        due("no call can be gone", x.longest(0, 0, 0, 0), 0);
        due("one call can be gone", x.longest(0, 1, 0, 0), 1);
    }

    private static void longestByM() {
        ShrinkingCalls x = Checks.told("act A2;call AA 0>0;call AA 0=0 1>1;");
        for (int m = 0; m <= 3; m++) {
            x.most(m);
            for (int a = 0; a <= m; a++) {
                for (int b = 0; b <= m; b++) due("M " + m + ": longest(0, " + a + ", " + b + ", 0)", x.longest(0, a, b, 0), a * (m + 1) + b);
            }
        }
    }

    private static void longestOfAllSizes() {
        ShrinkingCalls x = Checks.told("act A3;call AA 0>0;call AA 0=0 1>1;call AA 0=0 1=1 2>2;");
        int[] want = {0, 7, 26, 63};
        for (int m = 0; m <= 3; m++) {
            x.most(m);
            due("M " + m + ": of the greatest sizes", x.longest(0, m, m, m), want[m]);
            due("M " + m + ": of the least sizes", x.longest(0, 0, 0, 0), 0);
        }
    }

    /** No run that ends can be longer: each of 256 acts with sizes is met once. */
    private static void longestThroughAllActs() {
        ShrinkingCalls x = Checks.told("act A3;act B3;act C3;act D3;call AB 0=0 1=1 2=2;call BC 0=0 1=1 2=2;"
                + "call CD 0=0 1=1 2=2;call DA 0>0;call DA 0=0 1>1;call DA 0=0 1=1 2>2;call DA 0>1 0>0;call AB 0=0 1=1 2=2;");
        x.most(3);
        due("longest of all", x.longest(0, 3, 3, 3), 255);
        due("from the second act", x.longest(1, 3, 3, 3), 254);
        due("the last but one", x.longest(2, 0, 0, 0), 1);
        due("the last", x.longest(3, 0, 0, 0), 0);
        x.put(3, 0, 0, 1);
        due("and endless, if that is KEPT", x.longest(0, 3, 3, 3), ENDLESS);
    }

    /** What was found for other arcs, M or texts is not told again. */
    private static void longestAnew() {
        ShrinkingCalls x = Checks.told("act A1;act B1;call AA 0>0;call AB;call BB 0>0;");
        due("2 down, to B, 2 down", x.longest(0, 2, 0, 0), 5);
        x.put(1, 0, 0, 1);
        due("2 down, or to B and 2 down", x.longest(0, 2, 0, 0), 3);
        x.most(3);
        due("3 down, or to B and 3 down", x.longest(0, 3, 0, 0), 4);
        x.put(1, 0, 0, 0);
        due("3 down, to B, 3 down", x.longest(0, 3, 0, 0), 7);
        x.most(0);
        due("to B", x.longest(0, 0, 0, 0), 1);
        x.most(3);
        Checks.typed(x, "act A1;act B1;call BA;");
        x.read();
        due("no calls from A any more", x.longest(0, 3, 0, 0), 0);
        due("one call from B", x.longest(1, 3, 0, 0), 1);
        due("next from A", x.next(0, 3, 0, 0), 0);
        due("next from B", x.next(1, 0, 0, 0), 4);
    }

    private static void longestAtMZero() {
        ShrinkingCalls x = Checks.told("act A1;act B1;call AB 0=0;call BA 0>0;call CD;");
        x.most(0);
        due("KEPT can be gone at M 0", x.longest(0, 0, 0, 0), 1);
        due("LESS can't be gone at M 0", x.longest(1, 0, 0, 0), 0);
        due("a call without arcs can be gone at M 0", x.longest(2, 0, 0, 0), 1);
        x.put(1, 0, 0, 1);
        due("KEPT for ever at M 0", x.longest(0, 0, 0, 0), ENDLESS);
    }

    private static void endlessFromTheFirst() {
        due("a call to itself", Checks.told("call AA;").longest(0, 0, 0, 0), ENDLESS);
        due("KEPT to itself", Checks.told("act A1;call AA 0=0;").longest(0, 2, 0, 0), ENDLESS);
        due("LESS to another place", Checks.told("act A2;call AA 0>1;").longest(0, 1, 0, 0), ENDLESS);
        due("LESS to another place, from 0", Checks.told("act A2;call AA 0>1;").longest(0, 0, 2, 0), 0);
        ShrinkingCalls ring = Checks.told("call AB;call BC;call CD;call DA;");
        for (int act = 0; act <= 3; act++) due("a ring, from " + act, ring.longest(act, 0, 0, 0), ENDLESS);
    }

    private static void endlessLater() {
        ShrinkingCalls x = Checks.told("call AB;call BC;call CD;call DD;");
        for (int act = 0; act <= 3; act++) due("endless at last, from " + act, x.longest(act, 0, 0, 0), ENDLESS);
        // one of several calls leads to it, the last one
        x = Checks.told("call AB;call BC;call AC;call AD;call DD;");
        due("endless by the last call", x.longest(0, 0, 0, 0), ENDLESS);
        due("not endless beside it", x.longest(1, 0, 0, 0), 1);
        due("not endless at all", x.longest(2, 0, 0, 0), 0);
    }

    private static void endlessOnlyFromSomeSizes() {
        // the first call asks for 2 at least: what is behind it goes on for ever
        ShrinkingCalls x = Checks.told("act A1;act B1;act C1;call AB 0>0;call BC 0>0;call CC;");
        due("from 0", x.longest(0, 0, 0, 0), 0);
        due("from 1", x.longest(0, 1, 0, 0), 1);
        due("from 2", x.longest(0, 2, 0, 0), ENDLESS);
        x.most(3);
        due("from 3", x.longest(0, 3, 0, 0), ENDLESS);
    }

    /** A place that no arc comes to may have any size 0 .. M next. */
    private static void sizesThatNoArcComesTo() {
        ShrinkingCalls x = Checks.told("act A1;act B1;call AB;call BB 0>0;");
        for (int m = 0; m <= 3; m++) {
            x.most(m);
            due("M " + m + ": any size next, then down", x.longest(0, 0, 0, 0), m + 1);
        }
    }

    // ---- promise 22

    private static void nextNone() {
        due("next of no calls", new ShrinkingCalls().next(3, 0, 0, 0), 0);
        ShrinkingCalls x = Checks.told("act A1;act B1;call AB 0>0;");
        due("next where no call can be gone", x.next(0, 0, 0, 0), 0);
        due("next of an act without calls", x.next(1, 2, 0, 0), 0);
        due("next of 1", x.next(0, 1, 0, 0), 1);
        due("next of 2", x.next(0, 2, 0, 0), 2);
    }

    private static void nextOfAll() {
        ShrinkingCalls x = Checks.told("act A3;act B3;act C3;act D3;call AA;call AB;call AC;call AD;call AA;call AD;");
        int[] want = {4, 32, 108, 256};
        for (int m = 0; m <= 3; m++) {
            x.most(m);
            due("M " + m + ": all acts with all sizes", x.next(0, 0, m, 0), want[m]);
        }
        x = Checks.told(STAIRS + "call DA;call DB;call DC;call DD;");
        int[] stairs = {4, 1 + 2 + 4 + 8, 1 + 3 + 9 + 27, 1 + 4 + 16 + 64};
        for (int m = 0; m <= 3; m++) {
            x.most(m);
            due("M " + m + ": acts with 0 to 3 places", x.next(3, m, 0, m), stairs[m]);
        }
    }

    private static void nextByEachArc() {
        for (int pair = 0; pair < 9; pair++) {
            int from = pair / 3;
            int to = pair % 3;
            for (int v = 1; v <= 2; v++) {
                ShrinkingCalls x = Checks.told("act A3;act B3;call AB " + from + (v == 1 ? "=" : ">") + to + ";");
                x.most(3);
                for (int size = 0; size <= 3; size++) {
                    int has = v == 1 ? size + 1 : size;
                    int got = x.next(0, from == 0 ? size : 1, from == 1 ? size : 1, from == 2 ? size : 1);
                    due("next by arc " + pair + ", " + v + " of size " + size, got, 16 * has);
                }
            }
        }
        ShrinkingCalls x = Checks.told("act A3;act B3;call AB 0=0 1=1 2=2;call BA 0>2 1=1 2=0;");
        x.most(3);
        for (int i = 0; i < 64; i++) {
            int a = i & 3;
            int b = i >> 2 & 3;
            int c = i >> 4;
            due("next by three arcs", x.next(0, a, b, c), (a + 1) * (b + 1) * (c + 1));
            due("next by three arcs, crosswise", x.next(1, a, b, c), a * (b + 1) * (c + 1));
        }
        // by two arcs to one place the lesser counts
        x = Checks.told("act A2;act B1;call AB 0=0 1>0;");
        int[][] want = {{0, 1, 1}, {0, 1, 2}, {0, 1, 2}};
        for (int a = 0; a <= 2; a++) {
            for (int b = 0; b <= 2; b++) due("next(0, " + a + ", " + b + ", 0)", x.next(0, a, b, 0), want[a][b]);
        }
    }

    private static void nextOfSeveralCalls() {
        ShrinkingCalls x = Checks.told("act A1;act B2;call AB 0>0;call AB 0=1;call AB 0=0 0=1;");
        // 0 .. 1 by 0 .. 2, and 0 .. 2 by 0 .. 2, and that again
        due("those that several calls lead to count once", x.next(0, 2, 0, 0), 9);
        due("two that overlap", x.next(0, 1, 0, 0), 3 + 4);
        due("by the second alone", x.next(0, 0, 0, 0), 3);
        // each pair of three calls, and all three: all sizes but those that are too great for each of them
        String[] calls = {"call AB 0=0;", "call AB 0=1;", "call AB 0=2;"};
        for (int set = 1; set < 8; set++) {
            StringBuilder text = new StringBuilder("act A1;act B3;");
            for (int i = 0; i < 3; i++) if ((set >> i & 1) != 0) text.append(calls[i]);
            x = Checks.told(text.toString());
            x.most(3);
            for (int a = 0; a <= 3; a++) {
                int beyond = 1;
                for (int i = 0; i < 3; i++) beyond *= (set >> i & 1) != 0 ? 3 - a : 4;
                due("next(0, " + a + ", 0, 0) of " + text, x.next(0, a, 0, 0), 64 - beyond);
            }
        }
    }

    // ---- promise 23

    private static void weightOfEachKind() {
        // arcs, of them LESS, of them from a place to the same one; places of where it goes
        ShrinkingCalls x = Checks.told("act A3;act B2;act C1;call AA 0>0 1=1 0=1 2>1;call AB 0=0 1>0 2>1;call BC;call CB 0=1;");
        int[][] want = {{4, 6, 8, 4, 11}, {3, 5, 6, 4, 8}, {0, 0, 0, 0, 1}, {1, 1, 2, 1, 4}};
        for (int i = 0; i < 4; i++) {
            for (int kind = 0; kind < 5; kind++) due("weight(" + kind + ", " + i + ")", x.weight(kind, i), want[i][kind]);
        }
    }

    private static void weightLeastAndGreatest() {
        ShrinkingCalls x = Checks.told("act A3;call BC;call AA;");
        for (int kind = 0; kind < 5; kind++) due("least weight(" + kind + ", 0)", x.weight(kind, 0), 0);
        for (int pair = 0; pair < 9; pair++) x.put(1, pair / 3, pair % 3, 1);
        int[] kept = {9, 9, 18, 6, 21};
        for (int kind = 0; kind < 5; kind++) due("all KEPT: weight(" + kind + ", 1)", x.weight(kind, 1), kept[kind]);
        for (int pair = 0; pair < 9; pair++) x.put(1, pair / 3, pair % 3, 2);
        int[] less = {9, 18, 18, 15, 21};
        for (int kind = 0; kind < 5; kind++) due("all LESS: weight(" + kind + ", 1)", x.weight(kind, 1), less[kind]);
        // PLAIN of nothing but KEPT arcs to the same place is 0, and never below
        x = Checks.told("act A3;call AA 0=0 1=1 2=2;");
        due("PLAIN of KEPT to themselves", x.weight(3, 0), 0);
        for (int p = 0; p <= 3; p++) due("FAR to " + p + " places", Checks.told("act B" + p + ";call AB;").weight(4, 0), p);
    }

    private static void weightRefused() {
        ShrinkingCalls x = Checks.told("act A1;call AA 0>0;call AA;");
        for (int kind : new int[] {-1, 5, Checks.LEAST, Checks.GREATEST}) due("weight(" + kind + ", 0)", x.weight(kind, 0), BAD);
        for (int i : new int[] {-1, 2, 7, 8, Checks.LEAST, Checks.GREATEST}) {
            for (int kind = 0; kind < 5; kind++) due("weight(" + kind + ", " + i + ")", x.weight(kind, i), BAD);
        }
        due("refused: no mark in THE TRACE", x.trace(), 0);
        due("weight(0, 1)", x.weight(0, 1), 0);
        x = Checks.told(Texts.EIGHT_CALLS);
        due("weight(0, 7)", x.weight(0, 7), 0);
        due("weight(0, 8)", x.weight(0, 8), BAD);
    }

    // ---- promise 24

    private static void countEmptyAndFull() {
        ShrinkingCalls x = new ShrinkingCalls();
        int[] empty = {0, 0, 0, 0, 0, 2};
        for (int what = 0; what < 6; what++) due("empty: count(" + what + ")", x.count(what), empty[what]);
        Checks.typed(x, "act A3;act B3;act C3;act D3;" + Texts.EIGHT_CALLS);
        x.read();
        for (int i = 0; i < 72; i++) x.put(i / 9, i % 9 / 3, i % 3, 1 + i % 2);
        for (int i = 0; i < 12; i++) x.go(7);
        Checks.typed(x, Checks.blanks(300));
        x.most(3);
        int[] full = {8, 12, 12, 72, 300, 3};
        for (int what = 0; what < 6; what++) due("full: count(" + what + ")", x.count(what), full[what]);
        x.put(7, 2, 2, 0);
        due("an arc less", x.count(3), 71);
        x.put(7, 2, 2, 2);
        x.put(7, 2, 2, 1);
        due("KEPT is an arc as LESS is", x.count(3), 72);
        x.most(0);
        due("M 0", x.count(5), 0);
    }

    private static void countRefused() {
        ShrinkingCalls x = Checks.told("act A1;call AA 0>0;");
        for (int what : new int[] {-1, 6, 7, Checks.LEAST, Checks.GREATEST}) due("count(" + what + ")", x.count(what), BAD);
    }

    // ---- promise 25

    private static void traceOfEachKind() {
        long[] marks = {1, 11, 101, 1011, 10101};
        for (int kind = 0; kind < 5; kind++) {
            ShrinkingCalls x = Checks.told("call AB;");
            due("trace at first", x.trace(), 0);
            x.weight(kind, 0);
            due("trace of kind " + kind, x.trace(), marks[kind]);
            x.weight(kind, 0);
            due("trace of kind " + kind + " twice", x.trace(), 2 * marks[kind]);
        }
    }

    private static void traceStays() {
        ShrinkingCalls x = Checks.told("act A1;call AA 0>0;");
        x.weight(4, 0);
        x.count(3);
        x.mended(0);
        x.needed(-1);
        x.put(0, 0, 0, 1);
        x.anew();
        x.clear();
        x.most(1);
        x.trace();
        x.weight(5, 0);
        x.weight(0, 1);
        due("only weight() leaves marks", x.trace(), 10101);
        x.read();
        due("reading leaves it as it is", x.trace(), 10101);
    }

    /** The document: an object is used for at most 512 calls; the 512th is still promised. */
    private static void answersUpToTheLastCall() {
        ShrinkingCalls x = Checks.told("act A3;call AA 0>0;");
        // three calls of type, one of read: 508 are left
        for (int i = 1; i <= 507; i++) x.weight(4, 0);
        due("the 512th call", x.trace(), 507 * 10101L);
        x = new ShrinkingCalls();
        for (int i = 1; i <= 300; i++) x.type(' ', 1);
        for (int i = 1; i <= 211; i++) due("FULL over and over", x.type(' ', 1), Checks.FULL);
        due("the 512th call, read", x.read(), 0);
    }
}
