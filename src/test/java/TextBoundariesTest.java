/** The boundary cases of promises 1 to 8, and of the terms that they rest on: acts, places, calls, bytes, faults. */
public final class TextBoundariesTest {
    private static final int BAD = Checks.BAD, STATE = Checks.STATE, FULL = Checks.FULL, NONE = Checks.NONE;

    private static void due(String what, long got, long want) {
        Checks.due(what, got, want);
    }

    private static void reads(String text, int want) {
        due("read of '" + text + "'", Checks.readOf(text), want);
    }

    /** The fault of a text is at a place; and a text without the fault would be read. */
    private static void faultAt(String text, int place) {
        reads(text, -10 - place);
    }

    public static void main(String[] args) {
        newObjectHasNoCalls();
        newObjectIsApartFromOthers();
        typeTakesOneToEightBytes();
        typeTakesTheLowestBytesTheHighestOfThemFirst();
        typeTakesAnyByte();
        textHas300BytesAtMost();
        fullTextTakesNoPartOfWhatIsTooMuch();
        badIsAheadOfFull();
        clearOfEmptyAndFull();
        clearLeavesTheRest();
        readOfEmptyText();
        readOfFullText();
        readTellsAnew();
        readMakesTripAndTextEmpty();
        faultChangesNothing();
        faultMayBeMendedByTypingOn();
        itemsAreCounted();
        firstTokenByEachByte();
        actByEachByte();
        placesByEachByte();
        endOfItemByEachByte();
        arcSignByEachByte();
        wordsAreActAndCall();
        blanksAreBetweenTokensOnly();
        actToldAgain();
        actBehindACall();
        ninthCall();
        placesOfArcsFrom();
        placesOfArcsTo();
        numbersOfMoreFigures();
        endsTooEarly();
        firstFaultCounts();
        faultAtFirstAndLastByte();
        lessCountsIfToldTwice();
        arcsNoneOrMany();
        actsNotToldHaveNoPlaces();
        placesOfFirstAndLastAct();
        callFirstAndLast();
        callGraphLeastAndGreatest();
        arcFirstAndLastPlace();
        putLeastAndGreatest();
        putFirstAndLastPlace();
        putOfAnArcIsAnsweredWithAnew();
        Checks.end();
    }

    // ---- promise 1

    private static void newObjectHasNoCalls() {
        ShrinkingCalls x = new ShrinkingCalls();
        int[] counts = {0, 0, 0, 0, 0, 2};
        for (int what = 0; what < 6; what++) due("new: count(" + what + ")", x.count(what), counts[what]);
        due("new: call(0, 0)", x.call(0, 0), BAD);
        due("new: arc(0, 0, 0)", x.arc(0, 0, 0), BAD);
        due("new: put(0, 0, 0, 0)", x.put(0, 0, 0, 0), BAD);
        due("new: go(0)", x.go(0), BAD);
        due("new: weight(0, 0)", x.weight(0, 0), BAD);
        due("new: graphs()", x.graphs(), 0);
        due("new: graph(0, 0)", x.graph(0, 0), BAD);
        due("new: shortest(-1)", x.shortest(-1), NONE);
        due("new: shortest(0)", x.shortest(0), NONE);
        due("new: trip(0)", x.trip(0), STATE);
        due("new: anew()", x.anew(), 0);
        due("new: clear()", x.clear(), 0);
        due("new: mended(0)", x.mended(0), 0);
        due("new: mended(1)", x.mended(1), 0);
        due("new: needed(-1)", x.needed(-1), 0);
        due("new: needed(0)", x.needed(0), BAD);
        due("new: ends(-1)", x.ends(-1), 1);
        for (int act = 0; act < 4; act++) {
            due("new: places(" + act + ")", x.places(act), 0);
            due("new: ends(" + act + ")", x.ends(act), 1);
            due("new: slow(" + act + ")", x.slow(act), 0);
            due("new: longest(" + act + ", 0, 0, 0)", x.longest(act, 0, 0, 0), 0);
            due("new: next(" + act + ", 0, 0, 0)", x.next(act, 0, 0, 0), 0);
        }
        due("new: trace()", x.trace(), 0);
    }

    private static void newObjectIsApartFromOthers() {
        ShrinkingCalls one = Checks.told("act A3;call AA 0>0;");
        Checks.gone(one, 0);
        one.weight(4, 0);
        one.most(3);
        Checks.typed(one, "act");
        ShrinkingCalls other = new ShrinkingCalls();
        int[] counts = {0, 0, 0, 0, 0, 2};
        for (int what = 0; what < 6; what++) due("another object: count(" + what + ")", other.count(what), counts[what]);
        due("another object: trace()", other.trace(), 0);
        Checks.typed(other, "call BC;");
        other.read();
        due("the first object: call(0, 2)", one.call(0, 2), 2);
        due("the first object: count(4)", one.count(4), 3);
    }

    // ---- promise 2

    private static void typeTakesOneToEightBytes() {
        for (int n = 1; n <= 8; n++) {
            ShrinkingCalls x = new ShrinkingCalls();
            due("type(0, " + n + ")", x.type(0, n), n);
            due("type(0, " + n + ") again", x.type(0, n), 2 * n);
        }
        for (int n : new int[] {0, 9, -1, -8, 256 + 1, Checks.LEAST, Checks.LEAST + 1, Checks.GREATEST}) {
            ShrinkingCalls x = Checks.typed(new ShrinkingCalls(), "ab");
            due("type(0, " + n + ")", x.type(0, n), BAD);
            due("count(4) after type(0, " + n + ")", x.count(4), 2);
        }
    }

    private static void typeTakesTheLowestBytesTheHighestOfThemFirst() {
        String text = "act B1;act C3; call BC 0>2;  ";
        for (int n = 1; n <= 8; n++) {
            ShrinkingCalls x = new ShrinkingCalls();
            for (int i = 0; i < text.length(); i += n) {
                int some = Math.min(n, text.length() - i);
                // bytes above the lowest would be faults
                long v = 0x7E7E7E7E7E7E7E7EL;
                for (int j = 0; j < some; j++) v = v << 8 | text.charAt(i + j);
                x.type(v, some);
            }
            due("read of what was typed by " + n, x.read(), 3);
            due("arc of what was typed by " + n, x.arc(0, 0, 2), 2);
        }
        ShrinkingCalls x = new ShrinkingCalls();
        x.type(0x20202020202020FFL, 8);
        due("the lowest byte comes last", x.read(), -10 - 7);
        x = new ShrinkingCalls();
        x.type(0xFF20202020202020L, 8);
        due("the highest byte comes first", x.read(), -10);
    }

    private static void typeTakesAnyByte() {
        for (int b = 0; b < 256; b++) {
            ShrinkingCalls x = new ShrinkingCalls();
            due("type of byte " + b, x.type(b, 1), 1);
            due("type of byte " + b + " eight times", x.type(b * 0x0101010101010101L, 8), 9);
        }
        ShrinkingCalls x = new ShrinkingCalls();
        due("type(least long, 8)", x.type(Long.MIN_VALUE, 8), 8);
        due("type(greatest long, 8)", x.type(Long.MAX_VALUE, 8), 16);
        due("type(-1, 8)", x.type(-1L, 8), 24);
    }

    private static void textHas300BytesAtMost() {
        for (int n = 1; n <= 8; n++) {
            ShrinkingCalls x = Checks.typed(new ShrinkingCalls(), Checks.blanks(300 - n));
            due("type of " + n + " up to 300", x.type(0x2020202020202020L, n), 300);
            due("type of one more", x.type(' ', 1), FULL);
            due("count(4), full", x.count(4), 300);
            x = Checks.typed(new ShrinkingCalls(), Checks.blanks(301 - n));
            due("type of " + n + " up to 301", x.type(0x2020202020202020L, n), FULL);
            due("count(4), not quite full", x.count(4), 301 - n);
        }
        ShrinkingCalls x = Checks.typed(new ShrinkingCalls(), Checks.blanks(300));
        due("type of eight, full", x.type(0, 8), FULL);
        x.clear();
        due("type of eight, cleared", x.type(0, 8), 8);
    }

    private static void fullTextTakesNoPartOfWhatIsTooMuch() {
        String text = Checks.blanks(291) + "act A";
        ShrinkingCalls x = Checks.typed(new ShrinkingCalls(), text);
        due("type of five where four fit", x.type(0x3B3B3B3B3BL, 5), FULL);
        due("count(4) then", x.count(4), 296);
        x.type('3' << 24 | ' ' << 16 | ';' << 8 | ' ', 4);
        due("read then", x.read(), 1);
        due("places(0) then", x.places(0), 3);
    }

    private static void badIsAheadOfFull() {
        ShrinkingCalls x = Checks.typed(new ShrinkingCalls(), Checks.blanks(300));
        due("full: type(0, 0)", x.type(0, 0), BAD);
        due("full: type(0, 9)", x.type(0, 9), BAD);
        due("full: type(0, 1)", x.type(0, 1), FULL);
        due("full: type(0, 8)", x.type(0, 8), FULL);
        x = Checks.typed(new ShrinkingCalls(), Checks.blanks(295));
        due("295 bytes: type(0, 9)", x.type(0, 9), BAD);
    }

    // ---- promise 3

    private static void clearOfEmptyAndFull() {
        ShrinkingCalls x = new ShrinkingCalls();
        due("clear of none", x.clear(), 0);
        x.type('a', 1);
        due("clear of one", x.clear(), 1);
        Checks.typed(x, Checks.blanks(300));
        due("clear of 300", x.clear(), 300);
        due("clear again", x.clear(), 0);
        due("count(4) then", x.count(4), 0);
        Checks.typed(x, "act A2;");
        due("what is typed then is read from its first byte", x.read(), 1);
        due("clear after read", x.clear(), 0);
    }

    private static void clearLeavesTheRest() {
        Checks.Room used = new Checks.Room("used", "act A2;call AA 0>0 1=1;", x -> {
            Checks.gone(x, 0);
            x.weight(3, 0);
            x.most(3);
        });
        ShrinkingCalls x = used.open();
        Checks.typed(x, "act D3;call DD;");
        x.clear();
        due("clear leaves the rest as it is", Checks.all(x).equals(Checks.all(used.open())) ? 1 : 0, 1);
    }

    // ---- promise 4: what it tells

    private static void readOfEmptyText() {
        ShrinkingCalls x = Checks.told("act A2;call AA 0>0;");
        Checks.gone(x, 0);
        x.most(1);
        x.weight(0, 0);
        due("read of no bytes", x.read(), 0);
        due("no calls are left", x.count(0), 0);
        due("no places are left", x.count(1), 0);
        due("no trip is left", x.count(2), 0);
        due("M stays", x.count(5), 1);
        due("THE TRACE stays", x.trace(), 1);
        due("no graphs are left", x.graphs(), 0);
        reads(" ", 0);
        reads(Checks.blanks(300), 0);
    }

    private static void readOfFullText() {
        String text = "act A3;act B3;";
        ShrinkingCalls x = new ShrinkingCalls();
        Checks.typed(x, text + Checks.blanks(280 - text.length()) + "call AB 0>0 1>1 2>2;");
        due("300 bytes", x.count(4), 300);
        due("read of 300 bytes, the last one ends an item", x.read(), 3);
        due("the last arc of it", x.arc(0, 2, 2), 2);
        Checks.typed(x, Checks.blanks(293) + "act D1;");
        due("read of an item in the last bytes", x.read(), 1);
        due("places told by it", x.places(3), 1);
    }

    private static void readTellsAnew() {
        ShrinkingCalls x = Checks.told("act A3;act D3;call AD 0>0 1>1 2=2;call DA 2>2;");
        due("graphs", x.graphs() > 0 ? 1 : 0, 1);
        due("mended", x.mended(0), 0);
        due("needed", x.needed(-1) >= 0 ? 1 : 0, 1);
        Checks.typed(x, "act A1;call AA;");
        due("read again", x.read(), 2);
        int[] counts = {1, 1, 0, 0, 0, 2};
        for (int what = 0; what < 6; what++) due("read again: count(" + what + ")", x.count(what), counts[what]);
        due("places(0) told again", x.places(0), 1);
        due("places(3) told no more", x.places(3), 0);
        due("call(0, 2) told again", x.call(0, 2), 0);
        due("call(1, 0) told no more", x.call(1, 0), BAD);
        due("graphs told again", x.graphs(), 1);
        due("ends told again", x.ends(-1), 0);
        due("mended told again", x.mended(1), 1);
        due("needed told again", x.needed(-1), STATE);
        due("longest told again", x.longest(0, 0, 0, 0), Checks.ENDLESS);
    }

    private static void readMakesTripAndTextEmpty() {
        ShrinkingCalls x = Checks.told("call AA;call AA;");
        Checks.gone(x, 1, 1, 1, 1, 1, 1, 1, 1, 1, 1, 1, 1);
        Checks.typed(x, "call BB;" + Checks.blanks(292));
        due("read of a full text, with a full trip", x.read(), 1);
        due("the text then", x.count(4), 0);
        due("the trip then", x.count(2), 0);
        due("the trip does not come back then", x.trip(0), STATE);
        due("any call may be its first", x.go(0), 1);
        due("a text may be typed from its first byte", x.type('a', 1), 1);
    }

    private static void faultChangesNothing() {
        Checks.Room used = new Checks.Room("used", "act A2;act B1;call AB 0>0;call BA 0=1;call BB 0>0;", x -> {
            Checks.gone(x, 0, 1);
            x.most(3);
            x.weight(4, 1);
            x.graphs();
            x.mended(0);
            x.needed(-1);
        });
        // each goes some way before the fault: acts told, calls told, arcs told
        String[] faults = {"act C3;act D3;act C", "act A3;act C3;call AA 0>0 1=1 2>2;call CC 0=3;", Texts.EIGHT_CALLS + "call",
            ";", "act A0;act B0;act", "call CC;call DD;call", "call BB;call AA;call BA;x", Checks.blanks(299) + ";"};
        for (String text : faults) {
            Checks.Room typed = new Checks.Room("typed '" + text.trim() + "'", used.text(), x -> {
                used.then().accept(x);
                Checks.typed(x, text);
            });
            Checks.refused(typed, "read()", x -> x.read(), Checks.readOf(text));
            ShrinkingCalls x = typed.open();
            x.read();
            due("the text after the fault in '" + text.trim() + "'", x.clear(), text.length());
            due("the rest after the fault", Checks.all(x).equals(Checks.all(used.open())) ? 1 : 0, 1);
        }
    }

    private static void faultMayBeMendedByTypingOn() {
        ShrinkingCalls x = Checks.typed(new ShrinkingCalls(), "act");
        due("ends too early", x.read(), -13);
        Checks.typed(x, " A");
        due("and still", x.read(), -15);
        Checks.typed(x, "3");
        due("and still, too", x.read(), -16);
        Checks.typed(x, ";");
        due("then it is whole", x.read(), 1);
        due("places told by it", x.places(0), 3);
    }

    private static void itemsAreCounted() {
        reads("act A0;", 1);
        reads("call AA;", 1);
        reads("act A3;act B3;act C3;act D3;", 4);
        reads("act D0;act C1;act B2;act A3;" + Texts.EIGHT_CALLS, 12);
        reads(Texts.EIGHT_CALLS, 8);
        ShrinkingCalls x = Checks.told("act D0;act C1;act B2;act A3;call DC;call CB 0>1;");
        int[] places = {3, 2, 1, 0};
        for (int act = 0; act < 4; act++) due("told places(" + act + ")", x.places(act), places[act]);
    }

    // ---- promise 4: tokens, byte by byte

    private static boolean isFigure(int b) {
        return b >= '0' && b <= '9';
    }

    private static void firstTokenByEachByte() {
        for (int b = 0; b < 256; b++) {
            reads("" + (char) b, b == ' ' ? 0 : -10);
            reads("act A1;" + (char) b, b == ' ' ? 1 : -17);
            reads("call AA;  " + (char) b, b == ' ' ? 1 : -20);
        }
    }

    private static void actByEachByte() {
        for (int b = 0; b < 256; b++) {
            boolean act = b >= 'A' && b <= 'D';
            // with a blank the fault is the token behind it
            int behind = b == ' ' ? 1 : 0;
            reads("act " + (char) b + "2;", act ? 1 : -14 - behind);
            reads("call " + (char) b + "B;", act ? 1 : b == ' ' ? -17 : -15);
            reads("call B" + (char) b + ";", act ? 1 : -16 - behind);
        }
        for (int act = 0; act < 4; act++) {
            ShrinkingCalls x = Checks.told("act " + (char) ('A' + act) + "3;call " + (char) ('A' + act) + (char) ('D' - act) + ";");
            due("act by its sign", x.places(act), 3);
            due("call from an act by its sign", x.call(0, 0), act);
            due("call to an act by its sign", x.call(0, 1), 3 - act);
        }
    }

    private static void placesByEachByte() {
        for (int b = 0; b < 256; b++) {
            reads("act A" + (char) b + ";", b >= '0' && b <= '3' ? 1 : b == ' ' ? -16 : -15);
        }
        for (int n = 0; n < 4; n++) due("places told by " + n, Checks.told("act C" + n + ";").places(2), n);
    }

    private static void endOfItemByEachByte() {
        for (int b = 0; b < 256; b++) {
            reads("act A1" + (char) b, b == ';' ? 1 : b == ' ' ? -17 : isFigure(b) ? -15 : -16);
            reads("call AA" + (char) b, b == ';' ? 1 : b == ' ' ? -18 : -17);
            boolean more = isFigure(b);
            reads("act A1;call AA 0=0" + (char) b, b == ';' ? 2 : b == ' ' ? -29 : more ? -27 : -28);
        }
    }

    private static void arcSignByEachByte() {
        for (int b = 0; b < 256; b++) {
            int want = b == '>' || b == '=' ? 2 : b == ' ' ? -27 : isFigure(b) ? -25 : -26;
            reads("act A1;call AA 0" + (char) b + "0;", want);
        }
        due("> is LESS", Checks.told("act A1;call AA 0>0;").arc(0, 0, 0), 2);
        due("= is KEPT", Checks.told("act A1;call AA 0=0;").arc(0, 0, 0), 1);
    }

    private static void wordsAreActAndCall() {
        String[] none = {"a", "ac", "acts", "acta", "actz", "actact", "aact", "acu", "adt", "bct", "c", "cal", "calls", "calla", "callz", "callcall", "ccall", "calk",
            "camm", "cbll", "dall", "z", "zzzz", "tca", "llac", "actcall"};
        for (String word : none) {
            faultAt(word, 0);
            faultAt(word + " A2;", 0);
            faultAt("  " + word + "AA;", 2);
            faultAt("act A2;" + word + " AA;", 7);
        }
        String[] large = {"Act A2;", "ACT A2;", "aCt A2;", "acT A2;", "Call AA;", "CALL AA;"};
        for (String text : large) faultAt(text, 0);
        // each of the two is a word, but can't stand everywhere
        faultAt("act act;", 4);
        faultAt("act call;", 4);
        faultAt("call call;", 5);
        faultAt("call A act;", 7);
        faultAt("call AA call;", 8);
        faultAt("act A call", 6);
        faultAt("act A1 act", 7);
    }

    private static void blanksAreBetweenTokensOnly() {
        reads("actA1;callAA0>0;", 2);
        reads("   act   A   1   ;   call   A   A   0   >   0   0   =   0   ;   ", 2);
        faultAt("a ct A1;", 0);
        faultAt("ca ll AA;", 0);
        reads("act A1;call AA 0>0 0>0;", 2);
        faultAt("act A1;call AA 0>00>0;", 17);
        faultAt("act A1;call AA 0 0>0;", 17);
        // other signs that look like blanks begin no token
        for (int b : new int[] {0, 9, 10, 11, 12, 13, 31, 33, 127, 133, 160, 255}) {
            faultAt("act" + (char) b + "A1;", 3);
            faultAt((char) b + "act A1;", 0);
            faultAt("act A1;" + (char) b, 7);
        }
    }

    private static void actToldAgain() {
        for (char p = 'A'; p <= 'D'; p++) {
            faultAt("act " + p + "1;act " + p + "1;", 11);
            faultAt("act " + p + "0;act " + p + "3;", 11);
        }
        faultAt("act A1;act B1;act C1;act D1;act A1;", 32);
        faultAt("act A1;act B1;act C1;act D1;act D1;", 32);
        // the act is the fault, whatever comes behind it
        faultAt("act A1;act A9;", 11);
        faultAt("act A1;act A", 11);
        faultAt("act A1;act", 10);
        // what is told again in another text is told anew
        ShrinkingCalls x = Checks.told("act A1;");
        Checks.typed(x, "act A2;");
        due("told again in another text", x.read(), 1);
        due("places told there", x.places(0), 2);
        // a fault has told nothing
        Checks.typed(x, "act A3;x");
        due("a fault", x.read(), -17);
        x.clear();
        Checks.typed(x, "act A3;");
        due("told again after a fault", x.read(), 1);
    }

    private static void actBehindACall() {
        faultAt("call AA;act A1;", 8);
        faultAt("call AA;act B1;", 8);
        faultAt("act A1;call AA;act B1;", 15);
        faultAt("act A1;call AA;call AA;act B1;", 23);
        faultAt(Texts.EIGHT_CALLS + "act A1;", 64);
        faultAt("call AA;  act", 10);
    }

    private static void ninthCall() {
        reads(Texts.EIGHT_CALLS, 8);
        faultAt(Texts.EIGHT_CALLS + "call AA;", 64);
        faultAt(Texts.EIGHT_CALLS + "  call AA;", 66);
        faultAt(Texts.EIGHT_CALLS + "call", 64);
        faultAt(Texts.EIGHT_CALLS + "call E", 64);
        faultAt(Texts.EIGHT_CALLS + "cal", 64);
        faultAt(Texts.EIGHT_CALLS + ";", 64);
        reads(Texts.EIGHT_CALLS + "   ", 8);
        ShrinkingCalls x = Checks.told(Texts.EIGHT_CALLS);
        due("eight calls", x.count(0), 8);
    }

    private static void placesOfArcsFrom() {
        for (int places = 0; places <= 3; places++) {
            for (int n = 0; n <= 9; n++) {
                String text = "act A" + places + ";act B1;call AB " + n + "=0;";
                reads(text, n < places ? 3 : -10 - 22);
            }
        }
        faultAt("act A1;call BA 0=0;", 15);
        faultAt("call AA 0=0;", 8);
    }

    private static void placesOfArcsTo() {
        for (int places = 0; places <= 3; places++) {
            for (int n = 0; n <= 9; n++) {
                String text = "act A" + places + ";act B1;call BA 0>" + n + ";";
                reads(text, n < places ? 3 : -10 - 24);
            }
        }
        // each act has its own places
        reads("act A3;act B1;call AB 2=0;", 3);
        faultAt("act A3;act B1;call AB 0=2;", 24);
        reads("act A3;act B1;call BA 0=2;", 3);
        faultAt("act A3;act B1;call BA 2=0;", 22);
    }

    private static void numbersOfMoreFigures() {
        String[] numbers = {"00", "01", "10", "11", "000", "0123456789", "99"};
        for (String n : numbers) {
            faultAt("act A" + n + ";", 5);
            faultAt("act A  " + n + ";", 7);
            faultAt("act A3;call AA " + n + "=0;", 15);
            faultAt("act A3;call AA 0=" + n + ";", 17);
            faultAt("act A" + n, 5);
            faultAt(n, 0);
        }
        // two numbers of one figure each are no number of two, but the second can't stand there
        faultAt("act A 0 1;", 8);
        faultAt("act A3;call AA 0=0 1;", 20);
    }

    private static void endsTooEarly() {
        String text = "act A 2 ; call A A 0 > 1 1 = 0 ; ";
        for (int n = 0; n <= text.length(); n++) {
            String part = text.substring(0, n);
            int want = -10 - n;
            // a part of a word is a word that is none
            if (n == 1 || n == 2) want = -10;
            if (n > 10 && n < 14) want = -10 - 10;
            if (n == 0) want = 0;
            if (n == 9 || n == 10) want = 1;
            if (n >= text.length() - 1) want = 2;
            reads(part, want);
        }
    }

    private static void firstFaultCounts() {
        faultAt("act E4;", 4);
        faultAt("act A4 x", 5);
        faultAt("act A1 ? act A1;", 7);
        faultAt("act A1;act A1;call", 11);
        faultAt("x ?", 0);
        faultAt("? x", 0);
        faultAt("call AA 0 ? x", 8);
        faultAt("act A1;call AA 1>1;", 15);
        faultAt("act A1;call AA 0>1 11", 17);
        faultAt("call AE 0", 6);
        faultAt("act A2;call AA 0>1 2;?", 19);
    }

    private static void faultAtFirstAndLastByte() {
        faultAt("?", 0);
        faultAt(Checks.blanks(299) + "?", 299);
        faultAt(Checks.blanks(298) + "ac", 298);
        faultAt(Checks.blanks(297) + "act", 300);
        faultAt(Checks.blanks(295) + "act  ", 300);
        faultAt("act" + Checks.blanks(297), 300);
        faultAt("call AA" + Checks.blanks(293), 300);
        faultAt(Checks.blanks(294) + "act A0", 300);
        faultAt(Checks.blanks(293) + "act A00", 298);
    }

    private static void lessCountsIfToldTwice() {
        String[] texts = {"0=1 0>1", "0>1 0=1", "0>1 0>1", "0=1 0=1", "0=1 0>1 0=1", "0=1 1>0", "0>1 1=0"};
        int[] wants = {2, 2, 2, 1, 2, 1, 2};
        for (int i = 0; i < texts.length; i++) {
            ShrinkingCalls x = Checks.told("act A2;call AA " + texts[i] + ";call AA 0=1;");
            due("arc 0, 1 told by " + texts[i], x.arc(0, 0, 1), wants[i]);
            due("the other call's, with " + texts[i], x.arc(1, 0, 1), 1);
        }
    }

    private static void arcsNoneOrMany() {
        reads("act A3;call AA;", 2);
        ShrinkingCalls x = Checks.told("act A3;call AA 0=0 0=1 0=2 1=0 1=1 1=2 2=0 2=1 2=2;");
        due("all nine KEPT", x.call(0, 2), 9841);
        // 300 bytes: 71 arcs in one call
        String many = "act A3; call AA" + " 2=1".repeat(70) + " 2>1";
        x = Checks.typed(new ShrinkingCalls(), many);
        due("an arc told over and over, without an end", x.read(), -10 - 299);
        x.type(';', 1);
        due("and with it", x.read(), 2);
        due("the arc", x.arc(0, 2, 1), 2);
        due("it is one arc", x.count(3), 1);
    }

    private static void actsNotToldHaveNoPlaces() {
        ShrinkingCalls x = Checks.told("act B2;call AD;call DA;");
        int[] places = {0, 2, 0, 0};
        for (int act = 0; act < 4; act++) due("places(" + act + ") where B is told", x.places(act), places[act]);
        faultAt("act B2;call AB 0=0;", 15);
        faultAt("act B2;call BA 0=0;", 17);
    }

    // ---- promises 5 to 8

    private static void placesOfFirstAndLastAct() {
        ShrinkingCalls x = Checks.told("act A1;act B0;act C2;act D3;");
        int[] places = {1, 0, 2, 3};
        for (int act = 0; act < 4; act++) due("places(" + act + ")", x.places(act), places[act]);
        for (int act : new int[] {-1, 4, Checks.LEAST, Checks.GREATEST}) due("places(" + act + ")", x.places(act), BAD);
    }

    private static void callFirstAndLast() {
        for (int n = 0; n <= 8; n++) {
            ShrinkingCalls x = Checks.told(Texts.EIGHT_CALLS.substring(0, 8 * n).replace("call AA", "call AD"));
            for (int i = 0; i < 8; i++) {
                for (int what = 0; what <= 2; what++) {
                    due("call(" + i + ", " + what + ") of " + n, x.call(i, what), i >= n ? BAD : what == 1 ? 3 : 0);
                }
            }
            for (int i : new int[] {-1, 8, Checks.LEAST, Checks.GREATEST}) due("call(" + i + ", 0) of " + n, x.call(i, 0), BAD);
            for (int what : new int[] {-1, 3, Checks.LEAST, Checks.GREATEST}) due("call(0, " + what + ")", x.call(0, what), BAD);
        }
    }

    private static void callGraphLeastAndGreatest() {
        ShrinkingCalls x = Checks.told("act A3;call AA;");
        due("no arcs", x.call(0, 2), 0);
        int power = 1;
        for (int pair = 0; pair < 9; pair++) {
            x.put(0, pair / 3, pair % 3, 1);
            due("pair " + pair + " KEPT", x.call(0, 2), power);
            x.put(0, pair / 3, pair % 3, 2);
            due("pair " + pair + " LESS", x.call(0, 2), 2 * power);
            x.put(0, pair / 3, pair % 3, 0);
            power *= 3;
        }
        for (int pair = 0; pair < 9; pair++) x.put(0, pair / 3, pair % 3, 2);
        due("all LESS", x.call(0, 2), 19682);
    }

    private static void arcFirstAndLastPlace() {
        int[] edges = {-1, 0, 1, 2, 3, Checks.LEAST, Checks.GREATEST};
        for (int p = 0; p <= 3; p++) {
            for (int q = 0; q <= 3; q++) {
                ShrinkingCalls x = Checks.told("act A" + p + ";act B" + q + ";call AB;");
                for (int from : edges) {
                    for (int to : edges) {
                        boolean is = from >= 0 && from < p && to >= 0 && to < q;
                        due("arc(0, " + from + ", " + to + ") of " + p + ", " + q, x.arc(0, from, to), is ? 0 : BAD);
                    }
                }
            }
        }
        ShrinkingCalls x = Checks.told("act A1;" + Texts.EIGHT_CALLS);
        for (int i : new int[] {-1, 8, Checks.LEAST, Checks.GREATEST}) due("arc(" + i + ", 0, 0)", x.arc(i, 0, 0), BAD);
        due("arc(7, 0, 0)", x.arc(7, 0, 0), 0);
        due("arc of a call that is not told", Checks.told("act A1;call AA 0=0;").arc(1, 0, 0), BAD);
    }

    private static void putLeastAndGreatest() {
        for (int was = 0; was <= 2; was++) {
            for (int v = 0; v <= 2; v++) {
                ShrinkingCalls x = Checks.told("act A3;call AA 1=1;");
                x.put(0, 2, 0, was);
                due("put of " + v + " for " + was, x.put(0, 2, 0, v), was);
                due("arc then", x.arc(0, 2, 0), v);
                due("the other arc", x.arc(0, 1, 1), 1);
            }
            for (int v : new int[] {-1, 3, 4, Checks.LEAST, Checks.GREATEST}) {
                ShrinkingCalls x = Checks.told("act A3;call AA;");
                x.put(0, 2, 0, was);
                due("put of " + v, x.put(0, 2, 0, v), BAD);
                due("arc after put of " + v, x.arc(0, 2, 0), was);
                due("graph after put of " + v, x.call(0, 2), was * 729);
            }
        }
    }

    private static void putFirstAndLastPlace() {
        int[] edges = {-1, 0, 1, 2, 3, Checks.LEAST, Checks.GREATEST};
        for (int p = 0; p <= 3; p++) {
            for (int q = 0; q <= 3; q++) {
                ShrinkingCalls x = Checks.told("act A" + p + ";act B" + q + ";call BB;call AB;");
                for (int from : edges) {
                    for (int to : edges) {
                        boolean is = from >= 0 && from < p && to >= 0 && to < q;
                        due("put(1, " + from + ", " + to + ", 2) of " + p + ", " + q, x.put(1, from, to, 2), is ? 0 : BAD);
                    }
                }
                due("as many arcs as were put", x.count(3), p * q);
                due("none in the other call", x.call(0, 2), 0);
            }
        }
        ShrinkingCalls x = Checks.told("act A1;" + Texts.EIGHT_CALLS);
        for (int i : new int[] {-1, 8, Checks.LEAST, Checks.GREATEST}) due("put(" + i + ", 0, 0, 1)", x.put(i, 0, 0, 1), BAD);
        due("put(7, 0, 0, 1)", x.put(7, 0, 0, 1), 0);
        due("put into a call that is not told", Checks.told("act A1;call AA;").put(1, 0, 0, 1), BAD);
    }

    /** Answers that were given before put are given anew, for the arcs as they are then. */
    private static void putOfAnArcIsAnsweredWithAnew() {
        ShrinkingCalls x = Checks.told("act A1;call AA 0>0;");
        Checks.gone(x, 0);
        for (int v : new int[] {2, 1, 0, 1, 2}) {
            x.put(0, 0, 0, v);
            due("graph by " + v, x.graph(0, 2), v);
            due("ends by " + v, x.ends(-1), v == 2 ? 1 : 0);
            due("shortest by " + v, x.shortest(-1), v == 2 ? NONE : 1);
            due("trip(0) by " + v, x.trip(0), v);
            due("trip(1) by " + v, x.trip(1), v == 0 ? 0 : 1);
            due("trip(2) by " + v, x.trip(2), v == 2 ? 1 : 0);
            due("slow by " + v, x.slow(0), v == 2 ? 1 : NONE);
            due("mended by " + v, x.mended(0), v == 2 ? 0 : 1);
            due("needed by " + v, x.needed(-1), v == 2 ? 1 : STATE);
            due("longest by " + v, x.longest(0, 2, 0, 0), v == 2 ? 2 : Checks.ENDLESS);
            due("next by " + v, x.next(0, 1, 0, 0), new int[] {3, 2, 1}[v]);
            due("weight by " + v, x.weight(1, 0), v);
        }
        due("the trip is as it was", x.count(2), 1);
    }
}
