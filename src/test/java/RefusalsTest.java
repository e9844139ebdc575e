import java.util.function.ToLongFunction;

/**
 * The document's sentence 'Refused, and nothing changes, the first of these: BAD .., STATE .., FULL': each call that is
 * refused, in each of several states of an object, with the object then compared with one that was never asked.
 */
public final class RefusalsTest {
    private static final int BAD = Checks.BAD, STATE = Checks.STATE, FULL = Checks.FULL;
    private static final int[] OUTSIDE = {Checks.LEAST, Checks.LEAST + 1, -65536, -1, 4, 8, 256, 65536, Checks.GREATEST};

    private static final Checks.Room NEW = new Checks.Room("new", "", x -> { });
    private static final Checks.Room USED = new Checks.Room("used", "act A2;act B1;call AB 0>0;call BA 0=1;call BB 0>0;", x -> {
        Checks.gone(x, 0, 2, 1);
        x.most(1);
        x.weight(4, 1);
        Checks.typed(x, "act C3;call CC 2>");
    });
    /** As USED, but all that is kept from call to call has been asked for. */
    private static final Checks.Room ASKED = new Checks.Room("asked", USED.text(), x -> {
        USED.then().accept(x);
        Checks.typed(x, "2;");
        x.graphs();
        x.graph(0, 0);
        x.mended(0);
        x.needed(-1);
        x.longest(0, 1, 1, 0);
    });
    private static final Checks.Room NOT_BACK = new Checks.Room("not back", "act A1;call AB;call BA;call AA 0=0;", x -> Checks.gone(x, 2, 0));
    private static final Checks.Room LARGE = new Checks.Room("large", Texts.LARGE_BY_ONE, x -> {
        Checks.gone(x, 0, 1);
        x.graphs();
    });
    private static final Checks.Room LARGE_IF_KEPT = new Checks.Room("large if kept", Texts.LARGE_IF_KEPT, x -> x.needed(-1));
    private static final Checks.Room FILLED = new Checks.Room("filled", "act A3;act B3;act C3;act D3;call AB 0=0;call BA 0=0;"
            + "call CD 1>1;call DC 1>1;call AA 2>2;call BB;call CC 1>1;call DD 1>1;", x -> {
        Checks.gone(x, 0, 1, 0, 1, 0, 1, 0, 1, 0, 1, 0, 1);
        x.most(3);
        Checks.typed(x, "act D1;" + Checks.blanks(293));
    });
    private static final Checks.Room[] ROOMS = {NEW, USED, ASKED, NOT_BACK, LARGE, LARGE_IF_KEPT, FILLED};

    private static void refused(Checks.Room room, String what, ToLongFunction<ShrinkingCalls> ask, long want) {
        Checks.refused(room, what, ask, want);
    }

    public static void main(String[] args) {
        for (Checks.Room room : ROOMS) {
            numbersThatAreNotAsTold(room);
            callsThatThereAreNot(room);
            placesThatThereAreNot(room);
            sizesThatThereAreNot(room);
        }
        kthOnesThatThereAreNot();
        stateIsAheadOfKthOnes();
        stateOfTrips();
        stateOfNeeded();
        fullAndWhatIsAheadOfIt();
        Checks.end();
    }

    private static void numbersThatAreNotAsTold(Checks.Room room) {
        for (int n : new int[] {Checks.LEAST, -1, 0, 9, Checks.GREATEST}) refused(room, "type(7, " + n + ")", x -> x.type(7, n), BAD);
        for (int n : OUTSIDE) {
            refused(room, "places(" + n + ")", x -> x.places(n), BAD);
            refused(room, "slow(" + n + ")", x -> x.slow(n), BAD);
            refused(room, "most(" + n + ")", x -> x.most(n), BAD);
            refused(room, "longest(" + n + ", 0, 0, 0)", x -> x.longest(n, 0, 0, 0), BAD);
            refused(room, "next(" + n + ", 0, 0, 0)", x -> x.next(n, 0, 0, 0), BAD);
            refused(room, "trip(" + n + ")", x -> x.trip(n), BAD);
            refused(room, "mended(" + n + ")", x -> x.mended(n), BAD);
            refused(room, "call(0, " + n + ")", x -> x.call(0, n), BAD);
        }
        refused(room, "trip(3)", x -> x.trip(3), BAD);
        refused(room, "mended(2)", x -> x.mended(2), BAD);
        refused(room, "call(0, 3)", x -> x.call(0, 3), BAD);
        for (int n : new int[] {Checks.LEAST, -2, 4, Checks.GREATEST}) refused(room, "ends(" + n + ")", x -> x.ends(n), BAD);
        for (int n : new int[] {Checks.LEAST, -1, 6, Checks.GREATEST}) refused(room, "count(" + n + ")", x -> x.count(n), BAD);
        for (int n : new int[] {Checks.LEAST, -1, 5, Checks.GREATEST}) {
            refused(room, "weight(" + n + ", 0)", x -> x.weight(n, 0), BAD);
            refused(room, "graph(0, " + n + ")", x -> x.graph(0, n), BAD);
        }
        for (int n : new int[] {Checks.LEAST, -1}) refused(room, "graph(" + n + ", 0)", x -> x.graph(n, 0), BAD);
        for (int n : new int[] {Checks.LEAST, -2}) {
            refused(room, "shortest(" + n + ")", x -> x.shortest(n), BAD);
            refused(room, "needed(" + n + ")", x -> x.needed(n), BAD);
        }
        for (int n : new int[] {Checks.LEAST, -1, 19683, Checks.GREATEST}) {
            refused(room, "together(" + n + ", 0)", x -> x.together(n, 0), BAD);
            refused(room, "together(0, " + n + ")", x -> x.together(0, n), BAD);
        }
    }

    private static void callsThatThereAreNot(Checks.Room room) {
        int calls = room.open().count(0);
        for (int i : new int[] {Checks.LEAST, -1, calls, 8, Checks.GREATEST}) {
            refused(room, "call(" + i + ", 0)", x -> x.call(i, 0), BAD);
            refused(room, "arc(" + i + ", 0, 0)", x -> x.arc(i, 0, 0), BAD);
            refused(room, "put(" + i + ", 0, 0, 2)", x -> x.put(i, 0, 0, 2), BAD);
            refused(room, "go(" + i + ")", x -> x.go(i), BAD);
            for (int kind = 0; kind < 5; kind++) {
                int k = kind;
                refused(room, "weight(" + k + ", " + i + ")", x -> x.weight(k, i), BAD);
            }
        }
    }

    private static void placesThatThereAreNot(Checks.Room room) {
        ShrinkingCalls open = room.open();
        for (int i = 0; i < open.count(0); i++) {
            int call = i;
            int from = open.places(open.call(i, 0));
            int to = open.places(open.call(i, 1));
            for (int n : new int[] {Checks.LEAST, -1, from, Checks.GREATEST}) {
                refused(room, "arc(" + call + ", " + n + ", 0)", x -> x.arc(call, n, 0), BAD);
                refused(room, "put(" + call + ", " + n + ", 0, 2)", x -> x.put(call, n, 0, 2), BAD);
            }
            for (int n : new int[] {Checks.LEAST, -1, to, Checks.GREATEST}) {
                refused(room, "arc(" + call + ", 0, " + n + ")", x -> x.arc(call, 0, n), BAD);
                refused(room, "put(" + call + ", 0, " + n + ", 2)", x -> x.put(call, 0, n, 2), BAD);
            }
            for (int v : new int[] {Checks.LEAST, -1, 3, Checks.GREATEST}) {
                refused(room, "put(" + call + ", 0, 0, " + v + ")", x -> x.put(call, 0, 0, v), BAD);
            }
        }
    }

    private static void sizesThatThereAreNot(Checks.Room room) {
        ShrinkingCalls open = room.open();
        int m = open.count(5);
        for (int act = 0; act < 4; act++) {
            int p = act;
            int places = open.places(act);
            for (int e : new int[] {Checks.LEAST, -1, Checks.GREATEST, m + 1}) {
                refused(room, "longest(" + p + ", " + e + ", 0, 0)", x -> x.longest(p, e, 0, 0), BAD);
                refused(room, "longest(" + p + ", 0, " + e + ", 0)", x -> x.longest(p, 0, e, 0), BAD);
                refused(room, "longest(" + p + ", 0, 0, " + e + ")", x -> x.longest(p, 0, 0, e), BAD);
                refused(room, "next(" + p + ", " + e + ", 0, 0)", x -> x.next(p, e, 0, 0), BAD);
                refused(room, "next(" + p + ", 0, " + e + ", 0)", x -> x.next(p, 0, e, 0), BAD);
                refused(room, "next(" + p + ", 0, 0, " + e + ")", x -> x.next(p, 0, 0, e), BAD);
            }
            if (places < 1) refused(room, "longest(" + p + ", 1, 0, 0)", x -> x.longest(p, 1, 0, 0), BAD);
            if (places < 2) refused(room, "longest(" + p + ", 0, 1, 0)", x -> x.longest(p, 0, 1, 0), BAD);
            if (places < 3) refused(room, "next(" + p + ", 0, 0, 1)", x -> x.next(p, 0, 0, 1), BAD);
        }
    }

    private static void kthOnesThatThereAreNot() {
        for (Checks.Room room : new Checks.Room[] {NEW, USED, ASKED, NOT_BACK, LARGE_IF_KEPT, FILLED}) {
            int graphs = room.open().graphs();
            for (int k : new int[] {graphs, 1000, Checks.GREATEST}) {
                for (int what = 0; what <= 4; what++) {
                    int w = what;
                    refused(room, "graph(" + k + ", " + w + ")", x -> x.graph(k, w), BAD);
                }
            }
            int way = room.open().shortest(-1);
            for (int k : new int[] {way, 8, Checks.GREATEST}) if (way > 0) refused(room, "shortest(" + k + ")", x -> x.shortest(k), BAD);
            int needed = room.open().needed(-1);
            for (int k : new int[] {needed, 72, Checks.GREATEST}) if (needed >= 0) refused(room, "needed(" + k + ")", x -> x.needed(k), BAD);
        }
    }

    private static void stateIsAheadOfKthOnes() {
        refused(LARGE, "graphs()", x -> x.graphs(), STATE);
        for (int k : new int[] {0, 999, 1000, Checks.GREATEST}) {
            refused(LARGE, "graph(" + k + ", 4)", x -> x.graph(k, 4), STATE);
            refused(LARGE, "shortest(" + k + ")", x -> x.shortest(k), STATE);
            refused(LARGE, "needed(" + k + ")", x -> x.needed(k), STATE);
        }
        for (int n : new int[] {-1, 0, 3}) refused(LARGE, "ends(" + n + ")", x -> x.ends(n), STATE);
        for (int n : new int[] {0, 3}) refused(LARGE, "slow(" + n + ")", x -> x.slow(n), STATE);
        for (int n : new int[] {0, 1}) refused(LARGE, "mended(" + n + ")", x -> x.mended(n), STATE);
        for (int n : new int[] {-1, 0}) refused(LARGE_IF_KEPT, "needed(" + n + ")", x -> x.needed(n), STATE);
    }

    private static void stateOfTrips() {
        for (int what = 0; what <= 2; what++) {
            int w = what;
            refused(NEW, "trip(" + w + ")", x -> x.trip(w), STATE);
            refused(NOT_BACK, "trip(" + w + ")", x -> x.trip(w), STATE);
        }
        // NOT_BACK has come to B, from where only call 1 goes
        refused(NOT_BACK, "go(0)", x -> x.go(0), STATE);
        refused(NOT_BACK, "go(2)", x -> x.go(2), STATE);
    }

    private static void stateOfNeeded() {
        for (int k : new int[] {-1, 0, 72, Checks.GREATEST}) {
            refused(NOT_BACK, "needed(" + k + ")", x -> x.needed(k), STATE);
            refused(FILLED, "needed(" + k + ")", x -> x.needed(k), STATE);
        }
    }

    private static void fullAndWhatIsAheadOfIt() {
        for (int n = 1; n <= 8; n++) {
            int bytes = n;
            refused(FILLED, "type(7, " + n + ")", x -> x.type(7, bytes), FULL);
        }
        // the trip has come back to A: calls 0 and 4 go on from there
        refused(FILLED, "go(0)", x -> x.go(0), FULL);
        refused(FILLED, "go(4)", x -> x.go(4), FULL);
        refused(FILLED, "go(1)", x -> x.go(1), STATE);
        refused(FILLED, "go(7)", x -> x.go(7), STATE);
        refused(FILLED, "go(8)", x -> x.go(8), BAD);
        refused(FILLED, "type(7, 9)", x -> x.type(7, 9), BAD);
    }
}
