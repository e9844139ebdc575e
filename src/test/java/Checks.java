import java.util.ArrayList;
import java.util.List;
import java.util.function.Consumer;
import java.util.function.ToLongFunction;

/** What the tests of boundaries share: answers compared, texts told, and objects compared as a whole. */
final class Checks {
    static final int BAD = -1, STATE = -2, FULL = -3, ENDLESS = -4, NONE = -9;
    static final int LEAST = Integer.MIN_VALUE, GREATEST = Integer.MAX_VALUE;

    private static int wrong = 0;
    private static int checks = 0;

    private Checks() { }

    static void due(String what, long got, long want) {
        checks++;
        if (got != want) {
            wrong++;
            System.out.println(what + " answered " + got + ", due is " + want);
        }
    }

    static void end() {
        System.out.println(wrong == 0 ? "all " + checks + " answers are as due" : wrong + " answers are not as due");
        if (wrong != 0) System.exit(1);
    }

    static ShrinkingCalls typed(ShrinkingCalls x, String text) {
        for (int i = 0; i < text.length(); i += 8) {
            int n = Math.min(8, text.length() - i);
            long v = 0;
            for (int j = 0; j < n; j++) v = v << 8 | text.charAt(i + j);
            if (x.type(v, n) < 0) throw new IllegalStateException("the text is too long: " + text);
        }
        return x;
    }

    static ShrinkingCalls told(String text) {
        ShrinkingCalls x = typed(new ShrinkingCalls(), text);
        if (x.read() < 0) throw new IllegalStateException("the text is not as told: " + text);
        return x;
    }

    /** What a new object answers to read() of a text; -10 less the place of its fault. */
    static int readOf(String text) {
        return typed(new ShrinkingCalls(), text).read();
    }

    static String blanks(int n) {
        return " ".repeat(n);
    }

    static void gone(ShrinkingCalls x, int... calls) {
        for (int c : calls) if (x.go(c) < 0) throw new IllegalStateException("no such way");
    }

    /** A state of an object, made anew as often as one asks. */
    record Room(String name, String text, Consumer<ShrinkingCalls> then) {
        ShrinkingCalls open() {
            ShrinkingCalls x = told(text);
            then.accept(x);
            return x;
        }
    }

    /** The call is refused, and the object is then as one that was never asked. */
    static void refused(Room room, String what, ToLongFunction<ShrinkingCalls> ask, long want) {
        ShrinkingCalls x = room.open();
        String where = room.name() + ": " + what;
        due(where, ask.applyAsLong(x), want);
        due(where + ", asked again,", ask.applyAsLong(x), want);
        List<Long> asked = all(x);
        List<Long> never = all(room.open());
        for (int i = 0; i < never.size(); i++) {
            due("after " + where + " the " + i + "-th answer of all()", asked.get(i), never.get(i));
        }
    }

    /** All that can be seen of an object (some 150 calls, and it is spent then). */
    static List<Long> all(ShrinkingCalls x) {
        List<Long> seen = new ArrayList<>();
        look(x, seen);
        // where the trip has come to, and what THE TEXT holds, is seen only by going on
        for (int c = 0; c < 8; c++) seen.add((long) x.go(c));
        seen.add((long) x.anew());
        seen.add((long) x.read());
        look(x, seen);
        seen.add((long) x.clear());
        return seen;
    }

    private static void look(ShrinkingCalls x, List<Long> seen) {
        long[] now = {x.graphs(), x.graph(0, 2), x.graph(x.graphs() - 1, 2), x.ends(-1), x.shortest(-1), x.shortest(0),
            x.trip(0), x.trip(1), x.trip(2), x.mended(1), x.needed(-1), x.needed(0), x.trace()};
        for (long n : now) seen.add(n);
        for (int what = 0; what < 6; what++) seen.add((long) x.count(what));
        int m = x.count(5);
        for (int act = 0; act < 4; act++) {
            int p = x.places(act);
            seen.add((long) p);
            seen.add((long) x.slow(act));
            seen.add((long) x.longest(act, p > 0 ? m : 0, p > 1 ? m : 0, p > 2 ? m : 0));
            seen.add((long) x.next(act, p > 0 ? m : 0, p > 1 ? m : 0, p > 2 ? m : 0));
        }
        for (int i = 0; i < 8; i++) for (int what = 0; what < 3; what++) seen.add((long) x.call(i, what));
    }
}
