/** The boundary cases of promises 14 to 16, and of the terms that they rest on: THE ROUND TRIP, THREADS, FALLS. */
public final class TripBoundariesTest {
    private static final int BAD = Checks.BAD, STATE = Checks.STATE, FULL = Checks.FULL;
    private static final int[] EXTREMES = {Checks.LEAST, Checks.LEAST + 1, Checks.GREATEST};

    private static void due(String what, long got, long want) {
        Checks.due(what, got, want);
    }

    public static void main(String[] args) {
        goFirstAndLastCall();
        goTwelveAtMost();
        goRefusalsInOrder();
        goFromAnyActFirst();
        anewOfEmptyAndFull();
        anewLeavesTheRest();
        tripOfNoCalls();
        tripThatDoesNotComeBack();
        tripOfOneCallAndOfTwelve();
        tripThroughItsFirstAct();
        tripWhat();
        threadsOfEachSet();
        threadsThatEnd();
        threadsOfTheFirstAct();
        fallsAgainAndAgain();
        fallsNotByLessOnce();
        fallsIfItEnds();
        Checks.end();
    }

    private static ShrinkingCalls gone(String text, int... calls) {
        ShrinkingCalls x = Checks.told(text);
        Checks.gone(x, calls);
        return x;
    }

    private static void tripIs(String text, int number, int threads, int falls, int... calls) {
        ShrinkingCalls x = gone(text, calls);
        due("trip(0) of " + text, x.trip(0), number);
        due("trip(1) of " + text, x.trip(1), threads);
        due("trip(2) of " + text, x.trip(2), falls);
    }

    // ---- promise 14

    private static void goFirstAndLastCall() {
        for (int n = 0; n <= 8; n++) {
            String text = Texts.EIGHT_CALLS.substring(0, 8 * n);
            for (int call = -1; call <= 9; call++) {
                ShrinkingCalls x = Checks.told(text);
                due("go(" + call + ") of " + n, x.go(call), call >= 0 && call < n ? 1 : BAD);
                due("count(2) then", x.count(2), call >= 0 && call < n ? 1 : 0);
            }
            for (int call : EXTREMES) due("go(" + call + ") of " + n, Checks.told(text).go(call), BAD);
        }
    }

    private static void goTwelveAtMost() {
        ShrinkingCalls x = Checks.told("call AA;");
        for (int i = 1; i <= 12; i++) due("go for the " + i + "-th time", x.go(0), i);
        due("go for the 13th time", x.go(0), FULL);
        due("go for the 14th time", x.go(0), FULL);
        due("count(2), full", x.count(2), 12);
        due("anew, full", x.anew(), 12);
        due("go after anew", x.go(0), 1);
    }

    private static void goRefusalsInOrder() {
        ShrinkingCalls x = Checks.told("call AB;call BA;");
        x.go(0);
        due("BAD ahead of STATE, above", x.go(2), BAD);
        due("BAD ahead of STATE, below", x.go(-1), BAD);
        due("STATE", x.go(0), STATE);
        due("count(2) is as it was", x.count(2), 1);
        for (int i = 1; i < 12; i++) x.go(i % 2);
        due("full: BAD ahead of FULL, above", x.go(2), BAD);
        due("full: BAD ahead of FULL, below", x.go(-1), BAD);
        due("full: STATE ahead of FULL", x.go(1), STATE);
        due("full: FULL", x.go(0), FULL);
        due("full: count(2) is as it was", x.count(2), 12);
        due("full: what the trip is", x.trip(0), 0);
    }

    private static void goFromAnyActFirst() {
        String text = "call AB;call BC;call CD;call DA;";
        for (int first = 0; first < 4; first++) {
            for (int second = 0; second < 4; second++) {
                ShrinkingCalls x = Checks.told(text);
                due("first go(" + first + ")", x.go(first), 1);
                due("then go(" + second + ")", x.go(second), second == (first + 1) % 4 ? 2 : STATE);
                // a refused call is no part of the trip: one goes on from the last that was taken
                if (second != (first + 1) % 4) due("then go on", x.go((first + 1) % 4), 2);
            }
        }
    }

    // ---- promise 15

    private static void anewOfEmptyAndFull() {
        ShrinkingCalls x = Checks.told("call AB;call BA;call CC;");
        due("anew of none", x.anew(), 0);
        for (int n = 1; n <= 12; n++) {
            for (int i = 0; i < n; i++) x.go(i % 2);
            due("anew of " + n, x.anew(), n);
            due("count(2) then", x.count(2), 0);
        }
        due("anew again", x.anew(), 0);
        due("trip(0) then", x.trip(0), STATE);
        due("a call from another act may be first then", x.go(2), 1);
    }

    private static void anewLeavesTheRest() {
        Checks.Room used = new Checks.Room("used", "act A2;call AA 0>0 1=1;call AA 0=0;", x -> {
            x.weight(3, 0);
            x.most(3);
            Checks.typed(x, "act D3;");
        });
        ShrinkingCalls x = used.open();
        Checks.gone(x, 0, 1, 1);
        x.anew();
        due("anew leaves the rest as it is", Checks.all(x).equals(Checks.all(used.open())) ? 1 : 0, 1);
    }

    // ---- promise 16

    private static void tripOfNoCalls() {
        ShrinkingCalls none = new ShrinkingCalls();
        ShrinkingCalls some = Checks.told("act A1;call AA 0>0;");
        for (int what = 0; what <= 2; what++) {
            due("no calls at all: trip(" + what + ")", none.trip(what), STATE);
            due("no calls in it: trip(" + what + ")", some.trip(what), STATE);
        }
        for (int what : new int[] {-1, 3, Checks.LEAST, Checks.GREATEST}) {
            due("BAD ahead of STATE: trip(" + what + ")", none.trip(what), BAD);
            due("BAD ahead of STATE, too: trip(" + what + ")", some.trip(what), BAD);
        }
    }

    private static void tripThatDoesNotComeBack() {
        ShrinkingCalls x = gone("call AB;call BC;call CB;call CA;", 0, 1);
        for (int what = 0; what <= 2; what++) due("not back: trip(" + what + ")", x.trip(what), STATE);
        due("not back: trip(3)", x.trip(3), BAD);
        due("not back: trip(-1)", x.trip(-1), BAD);
        x.go(2);
        due("back to the second act only: trip(0)", x.trip(0), STATE);
        Checks.gone(x, 1, 3);
        due("back: trip(0)", x.trip(0), 0);
        due("back: trip(3)", x.trip(3), BAD);
        due("back: trip(-1)", x.trip(-1), BAD);
    }

    private static void tripOfOneCallAndOfTwelve() {
        tripIs("act A1;call AA 0>0;", 2, 1, 1, 0);
        // a ring of three, gone one to twelve times
        String ring = "act A3;call AA 0=1 1=2 2=0;call AA 0=1 1=2 2>0;";
        int[] numbers = {3 + 243 + 729, 9 + 27 + 2187, 1 + 81 + 6561};
        ShrinkingCalls x = Checks.told(ring);
        for (int n = 1; n <= 12; n++) {
            x.go(0);
            due("ring " + n + " times", x.trip(0), numbers[(n - 1) % 3]);
            due("ring's threads " + n + " times", x.trip(1), 7);
            due("ring falls " + n + " times", x.trip(2), 0);
        }
        // one call alone has LESS: the first, the second, the last of twelve
        tripIs(ring, 1 + 81 + 2 * 6561, 7, 1, 1, 0, 0);
        tripIs(ring, 1 + 2 * 81 + 6561, 7, 1, 0, 1, 0, 0, 0, 0, 0, 0, 0, 0, 0, 0);
        tripIs(ring, 2 + 81 + 6561, 7, 1, 0, 0, 0, 0, 0, 0, 0, 0, 0, 0, 0, 1);
    }

    private static void tripThroughItsFirstAct() {
        String text = "act A1;act B1;call AA 0>0;call AB 0=0;call BA 0=0;";
        ShrinkingCalls x = Checks.told(text);
        int[] calls = {0, 1, 2, 0};
        int[] wants = {2, STATE, 2, 2};
        for (int i = 0; i < calls.length; i++) {
            x.go(calls[i]);
            due("after " + (i + 1) + " calls: trip(0)", x.trip(0), wants[i]);
        }
    }

    private static void tripWhat() {
        ShrinkingCalls x = gone("act A2;call AA 0>0 1=0;", 0);
        int[] want = {2 + 27, 3, 1};
        for (int what = 0; what <= 2; what++) due("trip(" + what + ")", x.trip(what), want[what]);
        for (int what : new int[] {-1, 3, Checks.LEAST, Checks.GREATEST}) due("trip(" + what + ")", x.trip(what), BAD);
    }

    private static void threadsOfEachSet() {
        for (int set = 0; set < 8; set++) {
            StringBuilder arcs = new StringBuilder();
            int number = 0;
            int power = 1;
            for (int p = 0; p < 3; p++, power *= 81) {
                if ((set >> p & 1) == 0) continue;
                arcs.append(' ').append(p).append('=').append(p);
                number += power;
            }
            tripIs("act A3;call AA" + arcs + ";", number, set, 0, 0);
        }
    }

    private static void threadsThatEnd() {
        tripIs("act A3;call AA;", 0, 0, 0, 0);
        tripIs("act A3;call AA 0=1;", 3, 0, 0, 0);
        // two steps, then no more
        tripIs("act A3;call AA 0>1 1>2;", 2 * 3 + 2 * 243, 0, 0, 0);
        tripIs("act A3;call AA 2>1 1>0;", 2 * 27 + 2 * 2187, 0, 0, 0);
        tripIs("act A3;call AA 0>1 1>2 0>2;", 2 * 3 + 2 * 9 + 2 * 243, 0, 0, 0);
        // the same, but the last place goes on for ever, and so do those that come to it
        tripIs("act A3;call AA 0=1 1=2 2=2;", 3 + 243 + 6561, 7, 0, 0);
        tripIs("act A3;call AA 0=1 2=2;", 3 + 6561, 4, 0, 0);
        tripIs("act A3;call AA 0=1 1=0 2=0;", 3 + 27 + 729, 7, 0, 0);
        tripIs("act A3;call AA 0=1 1=0 0=2;", 3 + 27 + 9, 3, 0, 0);
        tripIs("call DD;", 0, 0, 0, 0);
    }

    private static void threadsOfTheFirstAct() {
        // the second act has more places than the first, and other ones
        String text = "act A1;act B3;call AB 0=2;call BA 2=0;call BB 0=0 1=1 2=2;";
        tripIs(text, 1, 1, 0, 0, 1);
        tripIs(text, 6561, 4, 0, 1, 0);
        // the thread breaks in the second act
        tripIs("act A1;act B2;call AB 0>0;call BA 1>0;", 0, 0, 0, 0, 1);
        tripIs("act A1;call AB;call BA;", 0, 0, 0, 0, 1);
    }

    private static void fallsAgainAndAgain() {
        for (int p = 0; p < 3; p++) {
            tripIs("act A3;call AA " + p + ">" + p + ";", new int[] {2, 162, 13122}[p], 1 << p, 1, 0);
        }
        tripIs("act A2;call AA 0>1 1=0;", 2 * 3 + 27, 3, 1, 0);
        tripIs("act A2;call AA 0=1 1>0;", 3 + 2 * 27, 3, 1, 0);
        tripIs("act A3;call AA 0=1 1=2 2>0;", 3 + 243 + 2 * 729, 7, 1, 0);
        tripIs("act A3;call AA 0=2 2=1 1>0;", 9 + 2187 + 2 * 27, 7, 1, 0);
        // LESS only in the middle of the trip
        tripIs("act A1;act B1;act C1;call AB 0=0;call BC 0>0;call CA 0=0;", 2, 1, 1, 0, 1, 2);
        // a thread that comes to the round later
        tripIs("act A2;call AA 0=1 1>1;", 3 + 2 * 81, 3, 1, 0);
    }

    private static void fallsNotByLessOnce() {
        tripIs("act A2;call AA 0>1 1=1;", 2 * 3 + 81, 3, 0, 0);
        tripIs("act A2;call AA 0=0 0>1;", 1 + 2 * 3, 1, 0, 0);
        tripIs("act A3;call AA 0=0 0>1 1>2 2=2;", 1 + 6 + 2 * 243 + 6561, 7, 0, 0);
        tripIs("act A3;call AA 0=1 1=0 0>2 2=2;", 3 + 27 + 18 + 6561, 7, 0, 0);
        tripIs("act A3;call AA 0>1;", 6, 0, 0, 0);
    }

    /** The document: so of each trip, if it ENDS. */
    private static void fallsIfItEnds() {
        String text = "act A2;act B2;call AB 0>0 1=1;call AB 0=0 1>1;call BA 0=0 1=1;call AA 0>0;";
        ShrinkingCalls x = Checks.told(text);
        due("it ends", x.ends(-1), 1);
        for (int i = 0; i < 64; i++) {
            x = Checks.told(text);
            // three rounds, each by one of the first two calls and back, or by the last
            for (int n = 0, rest = i; n < 3; n++, rest /= 4) {
                if (rest % 4 == 3) Checks.gone(x, 3);
                else Checks.gone(x, rest % 2, 2);
            }
            due("trip " + i + " falls", x.trip(2), 1);
        }
    }
}
