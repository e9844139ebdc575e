/** Each promise by hand: ordinary inputs, the edges that the document names, wrong inputs and their order. */
public final class PromisesTest {
    private static final int BAD = -1, STATE = -2, FULL = -3, ENDLESS = -4, NONE = -9;

    private static int wrong = 0;
    private static int checks = 0;

    private static void due(String what, long got, long want) {
        checks++;
        if (got != want) {
            wrong++;
            System.out.println(what + " answered " + got + ", due is " + want);
        }
    }

    private static void typeAll(ShrinkingCalls x, String text) {
        for (int i = 0; i < text.length(); i += 8) {
            int n = Math.min(8, text.length() - i);
            long v = -1;
            for (int j = 0; j < n; j++) v = v << 8 | text.charAt(i + j);
            if (x.type(v, n) < 0) throw new IllegalStateException("the text is too long: " + text);
        }
    }

    private static ShrinkingCalls told(String text) {
        ShrinkingCalls x = new ShrinkingCalls();
        typeAll(x, text);
        if (x.read() < 0) throw new IllegalStateException("the text is not as told: " + text);
        return x;
    }

    private static void readsAs(String text, int want) {
        ShrinkingCalls x = told("act B2;call BB 0>1;");
        typeAll(x, text);
        x.go(0);
        due("read of '" + text + "'", x.read(), want);
        if (want < 0) {
            due("count(4) after the fault in '" + text + "'", x.count(4), text.length());
            due("count(0) after the fault in '" + text + "'", x.count(0), 1);
            due("count(2) after the fault in '" + text + "'", x.count(2), 1);
            due("count(3) after the fault in '" + text + "'", x.count(3), 1);
            due("places(1) after the fault in '" + text + "'", x.places(1), 2);
        } else {
            due("count(4) after '" + text + "'", x.count(4), 0);
            due("count(2) after '" + text + "'", x.count(2), 0);
        }
    }

    public static void main(String[] args) {
        p1NewObject();
        p2Type();
        p3Clear();
        p4Read();
        p4Faults();
        p5Places();
        p6Call();
        p7Arc();
        p8Put();
        p9Graphs();
        p10Graph();
        p11Together();
        p12Ends();
        p13Shortest();
        p14Go();
        p15Anew();
        p16Trip();
        p17Slow();
        p18Mended();
        p19Needed();
        p20Most();
        p21Longest();
        p22Next();
        p23Weight();
        p24Count();
        p25Trace();
        System.out.println(wrong == 0 ? "all " + checks + " answers are as due" : wrong + " answers are not as due");
        if (wrong != 0) System.exit(1);
    }

    private static void p1NewObject() {
        ShrinkingCalls x = new ShrinkingCalls();
        for (int what = 0; what < 5; what++) due("new: count(" + what + ")", x.count(what), 0);
        due("new: count(5)", x.count(5), 2);
        for (int act = 0; act < 4; act++) due("new: places", x.places(act), 0);
        due("new: trace", x.trace(), 0);
        due("new: call(0, 0)", x.call(0, 0), BAD);
        due("new: graphs", x.graphs(), 0);
        due("new: ends(-1)", x.ends(-1), 1);
        due("new: shortest(0)", x.shortest(0), NONE);
        due("new: mended(1)", x.mended(1), 0);
        due("new: needed(0)", x.needed(0), BAD);
    }

    private static void p2Type() {
        ShrinkingCalls x = new ShrinkingCalls();
        due("type(1, 0)", x.type(1, 0), BAD);
        due("type(1, 9)", x.type(1, 9), BAD);
        due("type(1, -1)", x.type(1, -1), BAD);
        due("type(1, least)", x.type(1, Integer.MIN_VALUE), BAD);
        due("type(1, greatest)", x.type(1, Integer.MAX_VALUE), BAD);
        for (int i = 1; i <= 37; i++) due("type of eight", x.type(0x2020202020202020L, 8), 8 * i);
        due("type beyond 300", x.type(0, 5), FULL);
        due("BAD ahead of FULL", x.type(0, 9), BAD);
        due("nothing changed", x.count(4), 296);
        due("type up to 300", x.type(0x20202020, 4), 300);
        due("type beyond 300 by one", x.type(0, 1), FULL);
        due("300 blanks", x.read(), 0);
        // only the lowest bytes count, the highest of them first
        x.type(-1L << 32 | 'a' << 24 | 'c' << 16 | 't' << 8 | 'A', 4);
        x.type(-1L << 16 | '3' << 8 | ';', 2);
        due("text typed in two parts", x.read(), 1);
        due("places told by it", x.places(0), 3);
        x.type(-1L, 1);
        due("byte 255", x.read(), -10);
    }

    private static void p3Clear() {
        ShrinkingCalls x = new ShrinkingCalls();
        due("clear of none", x.clear(), 0);
        typeAll(x, "call AA; nonsense");
        due("clear", x.clear(), 17);
        due("clear again", x.clear(), 0);
        due("read of none", x.read(), 0);
    }

    private static void p4Read() {
        readsAs("", 0);
        readsAs("    ", 0);
        readsAs("actA0;", 1);
        readsAs("  act  A  3  ;  call  A  A  0  >  1  2  =  2  ;  ", 2);
        readsAs("actD3;callDD0>1 2=2;callDA;", 3);
        readsAs("act D3;act C2;act B1;act A0;", 4);
        readsAs("call AA;call AB;call BA;call CD;call DC;call DD;call BB;call CC;", 8);
        ShrinkingCalls x = told("act A2;act B3;call AB 0=1 0>1 1>2 1=2 0=0 0=0;call BA;");
        due("LESS told second counts", x.arc(0, 0, 1), 2);
        due("LESS told first counts", x.arc(0, 1, 2), 2);
        due("KEPT told twice", x.arc(0, 0, 0), 1);
        due("not told", x.arc(0, 1, 0), 0);
        x.go(0);
        x.most(3);
        typeAll(x, "act C1;call CC;");
        due("read anew", x.read(), 2);
        due("the trip is empty then", x.count(2), 0);
        due("acts told before are gone", x.places(1), 0);
        due("places told now", x.places(2), 1);
        due("calls told before are gone", x.count(0), 1);
        due("no arcs are left of them", x.count(3), 0);
        due("M stays", x.count(5), 3);
        due("the text is empty then", x.count(4), 0);
    }

    private static void p4Faults() {
        readsAs("act", -13);
        readsAs("act  ", -15);
        readsAs("act A", -15);
        readsAs("act A 2", -17);
        readsAs("act A 2 ", -18);
        readsAs("ac", -10);
        readsAs("actc", -10);
        readsAs("acta", -10);
        readsAs(" calls AA;", -11);
        readsAs("Act A2;", -10);
        readsAs("act a2;", -14);
        readsAs("act E2;", -14);
        readsAs("act @2;", -14);
        readsAs("act 2;", -14);
        readsAs("act A4;", -15);
        readsAs("act A9;", -15);
        readsAs("act A22;", -15);
        readsAs("act A 2 2;", -18);
        readsAs("act AB;", -15);
        readsAs("act A2;act A2;", -21);
        readsAs("act A2;;", -17);
        readsAs(";", -10);
        readsAs("call AA;act A1;", -18);
        readsAs("call AA;act", -18);
        readsAs("call;", -14);
        readsAs("call A;", -16);
        readsAs("call AE;", -16);
        readsAs("call A0;", -16);
        readsAs("call AA", -17);
        readsAs("call AAA;", -17);
        readsAs("call AA 0=0;", -18);
        readsAs("act A2;act B1;call AB 2=0;", -32);
        readsAs("act A2;act B1;call AB 1=1;", -34);
        readsAs("act A2;act B1;call AB 1=0;call BA 1=0;", -44);
        readsAs("act A2;call AA 0==0;", -27);
        readsAs("act A2;call AA 0;", -26);
        readsAs("act A2;call AA 0 0;", -27);
        readsAs("act A2;call AA 0>;", -27);
        readsAs("act A2;call AA 0>0", -28);
        readsAs("act A2;call AA 0>01>1;", -27);
        readsAs("act A2;call AA >0;", -25);
        readsAs("act A2;call AA 0>0,1>1;", -28);
        readsAs("act A2;call AA 0>0\n;", -28);
        readsAs("act A2;call AA;call", -29);
        readsAs("call AA;call AA;call AA;call AA;call AA;call AA;call AA;call AA;call", -74);
        readsAs("call AA;call AA;call AA;call AA;call AA;call AA;call AA;call AA;act", -74);
        readsAs("call AA;call AA;call AA;call AA;call AA;call AA;call AA;call AA;;", -74);
    }

    private static void p5Places() {
        ShrinkingCalls x = told("act B3;act D1;");
        due("places(0)", x.places(0), 0);
        due("places(1)", x.places(1), 3);
        due("places(2)", x.places(2), 0);
        due("places(3)", x.places(3), 1);
        due("places(4)", x.places(4), BAD);
        due("places(-1)", x.places(-1), BAD);
        due("places(least)", x.places(Integer.MIN_VALUE), BAD);
    }

    private static void p6Call() {
        ShrinkingCalls x = told("act B3;act D3;call BD 0=0 0>1 2>2;call DA;");
        due("call(0, 0)", x.call(0, 0), 1);
        due("call(0, 1)", x.call(0, 1), 3);
        due("call(0, 2)", x.call(0, 2), 1 + 2 * 3 + 2 * 6561);
        due("call(1, 0)", x.call(1, 0), 3);
        due("call(1, 1)", x.call(1, 1), 0);
        due("call(1, 2)", x.call(1, 2), 0);
        due("call(2, 0)", x.call(2, 0), BAD);
        due("call(-1, 0)", x.call(-1, 0), BAD);
        due("call(0, 3)", x.call(0, 3), BAD);
        due("call(0, -1)", x.call(0, -1), BAD);
    }

    private static void p7Arc() {
        ShrinkingCalls x = told("act A2;act B3;call AB 0=1 1>2;");
        due("arc KEPT", x.arc(0, 0, 1), 1);
        due("arc LESS", x.arc(0, 1, 2), 2);
        due("arc none", x.arc(0, 1, 1), 0);
        due("arc(1, ..)", x.arc(1, 0, 0), BAD);
        due("arc(-1, ..)", x.arc(-1, 0, 0), BAD);
        due("arc from no place", x.arc(0, 2, 0), BAD);
        due("arc to no place", x.arc(0, 0, 3), BAD);
        due("arc from -1", x.arc(0, -1, 0), BAD);
        due("arc to -1", x.arc(0, 0, -1), BAD);
    }

    private static void p8Put() {
        ShrinkingCalls x = told("act A2;act B3;call AB 0=1 1>2;call BA 1=0;");
        due("put", x.put(0, 0, 1, 2), 1);
        due("put again", x.put(0, 0, 1, 0), 2);
        due("put once more", x.put(0, 0, 1, 1), 0);
        due("it stands", x.arc(0, 0, 1), 1);
        due("others stand", x.arc(0, 1, 2), 2);
        due("put 3", x.put(0, 0, 1, 3), BAD);
        due("put -1", x.put(0, 0, 1, -1), BAD);
        due("put from no place", x.put(0, 2, 1, 1), BAD);
        due("put to no place", x.put(0, 1, 3, 1), BAD);
        due("put of no call", x.put(2, 0, 0, 1), BAD);
        due("nothing changed", x.arc(0, 0, 1), 1);
        x.go(0);
        x.go(1);
        due("trip before put", x.trip(2), 0);
        x.put(1, 1, 0, 2);
        due("the trip stays", x.count(2), 2);
        due("trip after put", x.trip(2), 1);
    }

    private static void p9Graphs() {
        due("graphs of one call", told("call AA;").graphs(), 1);
        due("the same graph twice", told("call AA;call AA;").graphs(), 1);
        due("between other acts", told("call AA;call BB;").graphs(), 2);
        due("a row of calls", told("call AB;call BC;call CD;").graphs(), 6);
        due("calls that do not meet", told("call AB;call CD;").graphs(), 2);
        due("graphs: 1000", told(Texts.JUST_1000).graphs(), 1000);
        ShrinkingCalls x = told(Texts.LARGE_BY_ONE);
        due("graphs: 1001", x.graphs(), STATE);
        x.put(0, 0, 0, 0);
        x.put(0, 1, 2, 0);
        x.put(0, 2, 1, 0);
        due("graphs after put", x.graphs() > 0 ? 1 : 0, 1);
    }

    private static void p10Graph() {
        ShrinkingCalls x = told("act A2;act B1;call BA 0>1;call AB 1=0;call AA 0=1 1=0;");
        int last = -1;
        for (int k = 0; k < x.graphs(); k++) {
            int at = (x.graph(k, 0) * 4 + x.graph(k, 1)) * 19683 + x.graph(k, 2);
            due("in order", at > last ? 1 : 0, 1);
            last = at;
        }
        due("first from", x.graph(0, 0), 0);
        due("first to", x.graph(0, 1), 0);
        due("last from", x.graph(x.graphs() - 1, 0), 1);
        ShrinkingCalls swap = told("act A2;call AA 0=1 1=0;");
        due("swap comes first", swap.graph(0, 2), 3 + 27);
        due("swap is not ROUND", swap.graph(0, 3), 0);
        due("swap is not BAD", swap.graph(0, 4), 0);
        due("swap twice", swap.graph(1, 2), 1 + 81);
        due("swap twice is ROUND", swap.graph(1, 3), 1);
        due("swap twice is BAD", swap.graph(1, 4), 1);
        ShrinkingCalls two = told("call AB;");
        due("of two acts: not ROUND", two.graph(0, 3), 0);
        due("of two acts: not BAD", two.graph(0, 4), 0);
        due("graph(-1, 0)", two.graph(-1, 0), BAD);
        due("graph(1, 0)", two.graph(1, 0), BAD);
        due("graph(0, 5)", two.graph(0, 5), BAD);
        due("graph(0, -1)", two.graph(0, -1), BAD);
        ShrinkingCalls large = told(Texts.LARGE_BY_ONE);
        due("large: graph(-1, 0)", large.graph(-1, 0), BAD);
        due("large: graph(0, 5)", large.graph(0, 5), BAD);
        due("large: graph(0, 0)", large.graph(0, 0), STATE);
        due("large: graph(2000, 0)", large.graph(2000, 0), STATE);
        ShrinkingCalls full = told(Texts.JUST_1000);
        due("graph(999, 0)", full.graph(999, 0), 1);
        due("graph(1000, 0)", full.graph(1000, 0), BAD);
    }

    private static void p11Together() {
        ShrinkingCalls x = told(Texts.LARGE_BY_ONE);
        due("KEPT, KEPT", x.together(3, 27), 1);
        due("KEPT, LESS", x.together(3, 54), 2);
        due("LESS, KEPT", x.together(6, 27), 2);
        due("no way on", x.together(3, 1), 0);
        // 0=0 0=1 with 0>2 1=2: one way is LESS
        due("one of two ways LESS", x.together(1 + 3, 2 * 9 + 243), 18);
        due("from 2 to 2 by 1", x.together(2187, 243), 6561);
        due("19683", x.together(0, 19683), BAD);
        due("-1", x.together(0, -1), BAD);
        due("least", x.together(Integer.MIN_VALUE, 0), BAD);
        due("19682", x.together(19682, 1), 2 + 54 + 2 * 729);
    }

    private static void p12Ends() {
        ShrinkingCalls x = told("act A1;act B1;call AA 0>0;call BB 0=0;call AB 0=0;");
        due("ends(-1)", x.ends(-1), 0);
        due("ends(0)", x.ends(0), 1);
        due("ends(1)", x.ends(1), 0);
        due("ends(2)", x.ends(2), 1);
        due("ends(3)", x.ends(3), 1);
        x.put(1, 0, 0, 2);
        due("ends(-1) after put", x.ends(-1), 1);
        due("ends(4)", x.ends(4), BAD);
        due("ends(-2)", x.ends(-2), BAD);
        due("a call to itself without places", told("call CC;").ends(2), 0);
        due("calls that go on only", told("call AB;call BC;call CD;").ends(-1), 1);
        due("large: ends(-1)", told(Texts.LARGE_BY_ONE).ends(-1), STATE);
        due("large: ends(3)", told(Texts.LARGE_BY_ONE).ends(3), STATE);
        due("large: ends(4)", told(Texts.LARGE_BY_ONE).ends(4), BAD);
    }

    private static void p13Shortest() {
        ShrinkingCalls x = told("act A1;act B1;call BA 0=0;call AA 0>0;call AB 0=0;call AB 0=0;");
        due("shortest(-1)", x.shortest(-1), 2);
        due("shortest(0)", x.shortest(0), 0);
        due("shortest(1)", x.shortest(1), 2);
        due("shortest(2)", x.shortest(2), BAD);
        due("shortest(-2)", x.shortest(-2), BAD);
        x.put(0, 0, 0, 2);
        due("shortest(-1) if it ends", x.shortest(-1), NONE);
        due("shortest(0) if it ends", x.shortest(0), NONE);
        due("shortest(99) if it ends", x.shortest(99), NONE);
        ShrinkingCalls eight = told(Texts.SHORTEST_OF_8);
        due("eight calls", eight.shortest(-1), 8);
        due("the eighth", eight.shortest(7) >= 0 ? 1 : 0, 1);
        due("no ninth", eight.shortest(8), BAD);
        ShrinkingCalls nine = told(Texts.SHORTEST_OF_9);
        due("nine calls: it does not end", nine.ends(-1), 0);
        due("nine calls", nine.shortest(-1), NONE);
        due("nine calls: the first", nine.shortest(0), NONE);
        due("large", told(Texts.LARGE_BY_ONE).shortest(-1), STATE);
        due("large, k beyond", told(Texts.LARGE_BY_ONE).shortest(50), STATE);
        due("large, k below", told(Texts.LARGE_BY_ONE).shortest(-2), BAD);
    }

    private static void p14Go() {
        ShrinkingCalls x = told("call AB;call BA;call CC;");
        due("go(3)", x.go(3), BAD);
        due("go(-1)", x.go(-1), BAD);
        due("go(1)", x.go(1), 1);
        due("go(1) again", x.go(1), STATE);
        due("go(2)", x.go(2), STATE);
        for (int i = 2; i <= 12; i++) due("go on", x.go(i % 2 == 0 ? 0 : 1), i);
        due("a thirteenth", x.go(1), FULL);
        due("STATE ahead of FULL", x.go(0), STATE);
        due("BAD ahead of all", x.go(3), BAD);
        due("nothing changed", x.count(2), 12);
    }

    private static void p15Anew() {
        ShrinkingCalls x = told("call AB;call BA;call CC;");
        due("anew of none", x.anew(), 0);
        x.go(0);
        x.go(1);
        due("anew", x.anew(), 2);
        due("it is empty", x.trip(0), STATE);
        due("any call may be first", x.go(2), 1);
    }

    private static void p16Trip() {
        ShrinkingCalls x = told("act A3;act B2;call AB 0=0 1>1;call BA 0=1 1=0;call AA 0=1 1=2;call AA 0=1 1=1 2>1;call BB 0>1;");
        due("empty", x.trip(0), STATE);
        due("BAD ahead of STATE", x.trip(3), BAD);
        due("trip(-1)", x.trip(-1), BAD);
        x.go(0);
        due("not back yet", x.trip(1), STATE);
        x.go(1);
        due("graph", x.trip(0), 3 + 2 * 27);
        due("threads", x.trip(1), 3);
        due("falls by a round of two", x.trip(2), 1);
        x.anew();
        x.go(2);
        due("threads that end", x.trip(1), 0);
        due("does not fall", x.trip(2), 0);
        x.anew();
        x.go(3);
        due("all lead to one for ever", x.trip(1), 7);
        due("LESS once only", x.trip(2), 0);
        x.anew();
        x.go(4);
        due("no thread", x.trip(1), 0);
        due("LESS once only, then none", x.trip(2), 0);
        ShrinkingCalls three = told("act A3;call AA 0=1 1=2 2>0;");
        three.go(0);
        due("falls by a round of three", three.trip(2), 1);
        ShrinkingCalls none = told("call DD;");
        none.go(0);
        due("no places: graph", none.trip(0), 0);
        due("no places: threads", none.trip(1), 0);
        due("no places: falls", none.trip(2), 0);
        ShrinkingCalls large = told(Texts.LARGE_BY_ONE);
        large.go(2);
        due("large: the trip is told all the same", large.trip(1), 6);
    }

    private static void p17Slow() {
        due("no graph to itself", told("act A2;call AB;").slow(0), 0);
        due("no places, but a graph", told("call AA;").slow(0), NONE);
        due("one place", told("act A3;call AA 2>2;").slow(0), 3);
        due("the first of one place", told("act A3;call AA 1>1 2>2;").slow(0), 2);
        due("1 ahead of 0", told("act A2;call AA 1>1;call AA 1=1 0>0;").slow(0), 2 + 4);
        due("three, backwards", told("act A3;call AA 2>2;call AA 2=2 1>1;call AA 2=2 1=1 0>0;").slow(0), 3 + 8 + 16);
        due("three, forwards", told("act A3;call AA 0>0;call AA 0=0 1>1;call AA 0=0 1=1 2>2;").slow(0), 1 + 8 + 48);
        due("no order", told("act A2;call AA 0>1 1>0;").slow(0), NONE);
        due("KEPT alone", told("act A2;call AA 0=0 1=1;").slow(0), NONE);
        due("by another act", told("act A1;act B1;call AB 0>0;call BA 0=0;").slow(1), 1);
        ShrinkingCalls x = told(Texts.LARGE_BY_ONE);
        due("slow(4)", x.slow(4), BAD);
        due("slow(-1)", x.slow(-1), BAD);
        due("large", x.slow(3), STATE);
    }

    private static void p18Mended() {
        ShrinkingCalls x = told("act A1;call AA 0>0;call AA 0=0;call AA;call BB;");
        due("how many", x.mended(0), 3);
        due("the set", x.mended(1), 2 + 4 + 8);
        x.put(1, 0, 0, 2);
        due("after put", x.mended(1), 4 + 8);
        due("mended(2)", x.mended(2), BAD);
        due("mended(-1)", x.mended(-1), BAD);
        ShrinkingCalls ring = told("call AB;call BC;call CA;");
        due("of several the least", ring.mended(1), 1);
        ShrinkingCalls few = told("call AB;call BA;call AC;call CA;call BD;call DB;");
        due("fewest ahead of least", few.mended(0), 3);
        due("least of those", few.mended(1), 1 + 4 + 16);
        ShrinkingCalls hub = told("call AB;call AC;call BD;call CD;call DA;");
        due("one for both rounds", hub.mended(1), 16);
        due("all calls", told("call AA;call AA;call AA;call AA;call AA;call AA;call AA;call AA;").mended(1), 255);
        due("none needed", told("act A1;call AA 0>0;").mended(0), 0);
        due("large", told(Texts.LARGE_BY_ONE).mended(0), STATE);
        due("large, BAD first", told(Texts.LARGE_BY_ONE).mended(2), BAD);
    }

    private static void p19Needed() {
        ShrinkingCalls x = told("act A2;act B2;call AB 0>0 1>1;call BA 0=0 1=1;call BB 1>0 0>1;");
        due("none alone is needed but those of a swap", x.needed(-1), 0);
        due("the 0th of none", x.needed(0), BAD);
        x.put(0, 0, 0, 1);
        due("needed then", x.needed(-1), 1);
        due("which", x.needed(0), 4);
        due("beyond", x.needed(1), BAD);
        due("needed(-2)", x.needed(-2), BAD);
        due("it is put back", x.arc(0, 1, 1), 2);
        x.put(0, 1, 1, 1);
        due("it does not end", x.needed(-1), STATE);
        due("it does not end, k", x.needed(0), STATE);
        due("it does not end, BAD first", x.needed(-2), BAD);
        ShrinkingCalls last = told("act A3;call AB;call AB;call AB;call AB;call AB;call AB;call AB;call AA 2>2;");
        due("the last arc there may be", last.needed(0), 71);
        due("large", told(Texts.LARGE_BY_ONE).needed(-1), STATE);
        ShrinkingCalls kept = told(Texts.LARGE_IF_KEPT);
        due("large if KEPT: ends", kept.ends(-1), 1);
        due("large if KEPT: graphs", kept.graphs(), 342);
        due("large if KEPT: needed", kept.needed(-1), STATE);
        due("large if KEPT: needed again", kept.needed(0), STATE);
        due("large if KEPT: graphs stand", kept.graphs(), 342);
    }

    private static void p20Most() {
        ShrinkingCalls x = told("act A1;call AA 0>0;");
        due("most(3)", x.most(3), 2);
        due("most(0)", x.most(0), 3);
        due("most(4)", x.most(4), BAD);
        due("most(-1)", x.most(-1), BAD);
        due("nothing changed", x.count(5), 0);
        due("sizes above M", x.longest(0, 1, 0, 0), BAD);
        due("M 0", x.longest(0, 0, 0, 0), 0);
    }

    private static void p21Longest() {
        ShrinkingCalls x = told("act A2;act B1;call AB 0>0;call BA 0=0;call AA 1>1 0=0;");
        due("longest(0, 0, 0, 0)", x.longest(0, 0, 0, 0), 0);
        due("longest(0, 0, 2, 0)", x.longest(0, 0, 2, 0), 2);
        due("longest(0, 2, 0, 0)", x.longest(0, 2, 0, 0), 8);
        due("longest(1, 0, 0, 0)", x.longest(1, 0, 0, 0), 3);
        due("longest(2, 0, 0, 0)", x.longest(2, 0, 0, 0), 0);
        due("no such size", x.longest(0, 3, 0, 0), BAD);
        due("below", x.longest(0, 0, -1, 0), BAD);
        due("others than its places", x.longest(0, 0, 0, 1), BAD);
        due("others than its places, too", x.longest(1, 0, 1, 0), BAD);
        due("no act", x.longest(4, 0, 0, 0), BAD);
        due("act -1", x.longest(-1, 0, 0, 0), BAD);
        x.put(2, 1, 1, 1);
        due("for ever", x.longest(0, 0, 0, 0), ENDLESS);
        due("for ever, later", x.longest(1, 2, 0, 0), ENDLESS);
        ShrinkingCalls branch = told("call AB;call BC;call AC;call CD;");
        due("the longest of several", branch.longest(0, 0, 0, 0), 3);
        due("to itself", told("call AA;").longest(0, 0, 0, 0), ENDLESS);
        ShrinkingCalls high = told("act A3;call AA 0>0;call AA 0=0 1>1;call AA 0=0 1=1 2>2;");
        high.most(3);
        due("as many calls as sizes", high.longest(0, 3, 3, 3), 63);
        due("large: runs are told all the same", told(Texts.LARGE_BY_ONE).longest(2, 0, 0, 0), 0);
    }

    private static void p22Next() {
        ShrinkingCalls x = told("act A2;act B3;call AB 0>0 0=1 1>1;call AA 0=0 1=1;call AA 0>0;call AC;call AC;");
        // to B 0 .. 1, 0 .. 1, 0 .. 2: 12; to A 3 times 3 with 0 .. 2, 0 .. 2 (holding 0 .. 1, 0 .. 2): 9; to C 1
        due("next(0, 2, 2, 0)", x.next(0, 2, 2, 0), 22);
        due("next(0, 0, 0, 0)", x.next(0, 0, 0, 0), 2);
        // to B none; to A 0 .. 1 with 0, and 0 with 0 .. 2: 4 different ones; to C 1
        due("next(0, 1, 0, 0)", x.next(0, 1, 0, 0), 4 + 1);
        due("next of none", x.next(1, 2, 2, 2), 0);
        due("no such size", x.next(0, 3, 0, 0), BAD);
        due("others than its places", x.next(0, 0, 0, 1), BAD);
        due("no act", x.next(4, 0, 0, 0), BAD);
        due("act -1", x.next(-1, 0, 0, 0), BAD);
        ShrinkingCalls all = told("act A3;act B3;act C3;act D3;call AA;call AB;call AC;call AD;");
        all.most(3);
        due("all there are", all.next(0, 0, 0, 0), 256);
        all.most(0);
        due("one each", all.next(0, 0, 0, 0), 4);
    }

    private static void p23Weight() {
        ShrinkingCalls x = told("act A3;act B2;call AA 0>0 1=1 0=1 2>1;call AB 0=0 1>0 2>1;call BC;");
        int[][] want = {{4, 6, 8, 4, 11}, {3, 5, 6, 4, 8}, {0, 0, 0, 0, 0}};
        for (int i = 0; i < 3; i++) {
            for (int kind = 0; kind < 5; kind++) due("weight(" + kind + ", " + i + ")", x.weight(kind, i), want[i][kind]);
        }
        due("weight(5, 0)", x.weight(5, 0), BAD);
        due("weight(-1, 0)", x.weight(-1, 0), BAD);
        due("weight(0, 3)", x.weight(0, 3), BAD);
        due("weight(0, -1)", x.weight(0, -1), BAD);
    }

    private static void p24Count() {
        ShrinkingCalls x = told("act A2;act D3;call AD 0=0 1>2;call DA 1>1;call CC;");
        x.go(0);
        x.go(1);
        x.type('a', 1);
        x.most(1);
        int[] want = {3, 5, 2, 3, 1, 1};
        for (int what = 0; what < 6; what++) due("count(" + what + ")", x.count(what), want[what]);
        due("count(6)", x.count(6), BAD);
        due("count(-1)", x.count(-1), BAD);
    }

    private static void p25Trace() {
        ShrinkingCalls x = told("act A1;call AA 0>0;");
        long[] marks = {1, 11, 101, 1011, 10101};
        long all = 0;
        for (int kind = 0; kind < 5; kind++) {
            x.weight(kind, 0);
            all += marks[kind];
            due("trace after kind " + kind, x.trace(), all);
        }
        x.weight(5, 0);
        x.weight(0, 1);
        due("refused calls leave no mark", x.trace(), all);
        typeAll(x, "call BB;");
        x.read();
        due("reading leaves it as it is", x.trace(), all);
    }
}
