/** Promises 37 to 40, sentence by sentence: each boundary case that the document names has a test of its own here. */
public final class EdgesPermitTest {
    private static final Check CHECK = new Check("EdgesPermitTest");
    private static final int BAD = Lands.BAD, STATE = Lands.STATE, FULL = Lands.FULL, NONE = Lands.NONE;
    private static final String ONES = "!(hqgdf", DIGITS = "0123456789";

    public static void main(String[] args) {
        signsOfAscii();
        twoHundredSigns();
        wipes();
        noSignsNoFault();
        faultAtTheEnd();
        whatMayBegin();
        whatMayName();
        namesThatAreNotThere();
        linksOfOneDigit();
        whatMayCompare();
        whatMayNumber();
        sevenDigits();
        whatMayStandBehind();
        brackets();
        nothingElse();
        theFirstFaultOfSeveral();
        faultsOfTextsInTurn();
        permitsOfTwoHundredSigns();
        comparesAtTheNumber();
        numbersAtTheirEdges();
        valuesBelowNothing();
        valuesThatAreNothing();
        notAheadOfAnd();
        andAheadOfOr();
        nests();
        holdsWithoutSigns();
        holdsWithAFault();
        holdsWithoutRest();
        CHECK.covers(37, 40);
        CHECK.end();
    }

    private static void due(int promise, String call, long got, long want) {
        CHECK.due(promise, call, got, want);
    }

    /** Two of each kind but for wells: one; heads 20, 20 less what the drain takes, .. see valuesThatAreNothing. */
    private static GroundWaters land() {
        GroundWaters x = new GroundWaters();
        x.cell(0, 0, 1);
        x.cell(0, 0, 1);
        x.link(0, 1, 1);
        x.link(1, 0, 2);
        x.river(0, 20, 0, 1);
        x.river(1, 30, 30, 9);
        x.drain(1, 18, 1);
        x.drain(0, 900, 1);
        x.well(0, 9, 1);
        return x;
    }

    private static void fault(String text, int want) {
        GroundWaters x = land();
        Lands.write(x, text);
        due(39, "fault() of " + text, x.fault(), want);
    }

    private static void holds(String text, int want) {
        GroundWaters x = land();
        Lands.write(x, text);
        due(40, "holds() of " + text, x.holds(), want);
    }

    /** Behind a text just these signs may stand, of all that there are; any other one is the fault. */
    private static void only(String text, String signs) {
        for (int s = 32; s <= 126; s++) {
            GroundWaters x = land();
            Lands.write(x, text + (char) s);
            long at = x.fault();
            boolean goesOn = signs.indexOf(s) >= 0;
            boolean right = goesOn ? at == NONE || at == text.length() + 1 : at == text.length();
            due(39, "fault() of " + text + (char) s + " is " + at + ": right", right ? 1 : 0, 1);
        }
    }

    /** Promise 37: "BAD: it is not 32 .. 126". */
    private static void signsOfAscii() {
        GroundWaters x = new GroundWaters();
        for (int s : new int[] {31, 127, 0, 10, 128, 255, 256 + 48, -1, Lands.MIN, Lands.MAX}) due(37, "sign(" + s + ")", x.sign(s), BAD);
        due(48, "count(6)", x.count(6), 0);
        for (int s = 32; s <= 126; s++) due(37, "sign(" + s + ")", x.sign(s), s - 31);
        due(37, "sign(127) behind them", x.sign(127), BAD);
        due(48, "count(6)", x.count(6), 95);
    }

    /** Terms 5: "a row of SIGNS (200 at most)". */
    private static void twoHundredSigns() {
        GroundWaters x = new GroundWaters();
        for (int i = 1; i <= 200; i++) due(37, "sign " + i, x.sign(126), i);
        due(37, "sign 201", x.sign(126), FULL);
        due(37, "sign 201, once more", x.sign(32), FULL);
        due(37, "sign 201 that is no sign: BAD is told first", x.sign(31), BAD);
        due(48, "count(6)", x.count(6), 200);
        due(38, "wipe()", x.wipe(), 200);
        due(37, "sign 1 behind a wipe", x.sign(126), 1);
    }

    /** Promise 38: "The PERMIT is wiped out: how many SIGNS there were." */
    private static void wipes() {
        GroundWaters x = land();
        due(38, "wipe() of nothing", x.wipe(), 0);
        x.sign('x');
        due(38, "wipe() of one", x.wipe(), 1);
        due(38, "wipe() of what was wiped out", x.wipe(), 0);
        due(48, "count(6)", x.count(6), 0);
        for (char s : "q0=0".toCharArray()) x.sign(s);
        due(39, "fault(): nothing of the old text is left", x.fault(), NONE);
        due(40, "holds()", x.holds(), 1);
        due(38, "wipe() of four", x.wipe(), 4);
    }

    /** Promise 39: "NONE: it has none, or no SIGNS." */
    private static void noSignsNoFault() {
        GroundWaters x = new GroundWaters();
        due(39, "fault() of no signs", x.fault(), NONE);
        x.sign(' ');
        due(39, "fault() of a blank", x.fault(), 0);
        x.wipe();
        due(39, "fault() of a text wiped out", x.fault(), NONE);
        fault("h0=0", NONE);
    }

    /** Terms 5: "its length: at its end". */
    private static void faultAtTheEnd() {
        for (String text : new String[] {"!", "!!", "(", "((", "h", "h0", "h0<", "h0<-", "h0<1&", "h0<1|", "(h0<1", "(h0<1&", "((h0<1)", "h0<1&(h0<1", "!(", "!h", "h0<1&!", "q", "f1>"}) {
            fault(text, text.length());
        }
    }

    /** Terms 5: "ANY: ALL ..; ALL: ONE ..; ONE: ! ONE, or ( ANY ), or an ASKING". */
    private static void whatMayBegin() {
        only("", ONES);
        only("!", ONES);
        only("(", ONES);
        only("h0<1&", ONES);
        only("h0<1|", ONES);
        only("(h0<1&", ONES);
    }

    /** Terms 5: "a letter, a digit"; "digits name them, those that are there". */
    private static void whatMayName() {
        only("h", "01");
        only("q", "0");
        only("g", "01");
        only("d", "01");
        only("f", "01");
        only("h0<1&q", "0");
    }

    /** Terms 5: "(names that are not there are such, at the digit)". */
    private static void namesThatAreNotThere() {
        fault("h2<1", 1);
        fault("q1<1", 1);
        fault("g2<1", 1);
        fault("d2<1", 1);
        fault("f2<1", 1);
        fault("h0<1&h2<1", 6);
        fault("!(h0<1|f9<1)", 8);
        GroundWaters x = new GroundWaters();
        for (char letter : "hqgdf".toCharArray()) {
            Lands.write(x, letter + "0<1");
            due(39, "fault() of " + letter + "0<1 where nothing is", x.fault(), 1);
        }
        Lands.write(x, "h0<1");
        x.cell(0, 0, 1);
        due(39, "fault() of h0<1: the cell has come", x.fault(), NONE);
        Lands.write(x, "q0<1");
        due(39, "fault() of q0<1: no well as yet", x.fault(), 1);
        x.well(0, 1, 1);
        due(39, "fault() of q0<1: the well has come", x.fault(), NONE);
        GroundWaters y = Lands.full();
        String last = "h5<1&q2<1&g2<1&d1<1&f9<1";
        Lands.write(y, last);
        due(39, "fault() of the last names that may be", y.fault(), NONE);
        for (String text : new String[] {"h6<1", "q3<1", "g3<1", "d2<1"}) {
            Lands.write(y, text);
            due(39, "fault() of " + text + " in a full land", y.fault(), 1);
        }
    }

    /** Terms 5: "(of LINKS 0 .. 9 alone)". */
    private static void linksOfOneDigit() {
        GroundWaters x = Lands.full();
        Lands.write(x, "f9<1");
        due(39, "fault() of f9<1", x.fault(), NONE);
        Lands.write(x, "f10<1");
        due(39, "fault() of f10<1: a second digit", x.fault(), 2);
        Lands.write(x, "f11<1");
        due(39, "fault() of f11<1: a second digit", x.fault(), 2);
        GroundWaters y = new GroundWaters();
        y.cell(0, 0, 1);
        y.cell(0, 0, 1);
        for (int l = 0; l < 9; l++) y.link(0, 1, 1);
        Lands.write(y, "f9<1");
        due(39, "fault() of f9<1 with nine links", y.fault(), 1);
        y.link(0, 1, 1);
        due(39, "fault() of f9<1 with ten links", y.fault(), NONE);
    }

    /** Terms 5: "< or > or =". */
    private static void whatMayCompare() {
        only("h0", "<>=");
        only("q0", "<>=");
        fault("h0<=1", 3);
        fault("h0<>1", 3);
        fault("h0==1", 3);
    }

    /** Terms 5: "a NUMBER (- at first or not, then 1 to 7 digits)": one at least. */
    private static void whatMayNumber() {
        only("h0<", "-" + DIGITS);
        only("h0<-", DIGITS);
        fault("h0<&", 3);
        fault("h0<-&", 4);
        fault("h0<)", 3);
        fault("h0<--1", 4);
        fault("h0<1-", 4);
        fault("h0<+1", 3);
        fault("h0<1", NONE);
        fault("h0<-1", NONE);
        fault("h0<-0", NONE);
    }

    /** Terms 5: "1 to 7 digits": an eighth one is the fault. */
    private static void sevenDigits() {
        for (int n = 1; n <= 7; n++) {
            fault("h0<" + "9".repeat(n), NONE);
            fault("h0<-" + "0".repeat(n), NONE);
        }
        fault("h0<12345678", 10);
        fault("h0<-12345678", 11);
        fault("h0<00000000", 10);
        only("h0<123456", DIGITS + "&|");
        only("h0<1234567", "&|");
        only("h0<-1234567", "&|");
        only("(h0<1234567", "&|)");
        fault("h0<1234567&h0<12345678", 21);
    }

    private static void whatMayStandBehind() {
        only("h0<1", DIGITS + "&|");
        only("(h0<1", DIGITS + "&|)");
        only("(h0<1)", "&|");
        only("((h0<1)", "&|)");
        only("h0<1&h0<1", DIGITS + "&|");
    }

    /** Terms 5: "( ANY )": as many close as were opened. */
    private static void brackets() {
        fault(")", 0);
        fault("()", 1);
        fault("(!)", 2);
        fault("h0<1)", 4);
        fault("(h0<1))", 6);
        fault("((h0<1)", 7);
        fault("(h0<1)&h0<1)", 11);
        fault("(h0<1&)", 6);
        fault("(h0<1)(h0<1)", 6);
        fault("(h0<1)!h0<1", 6);
        fault("h0<1(h0<1)", 4);
        fault("((h0<1)|(q0<1))", NONE);
        fault("!(!(!h0<1))", NONE);
    }

    /** Terms 5: "Nothing else stands between, ahead or behind." */
    private static void nothingElse() {
        String text = "!(h0<-12|q0>3)&f1=4";
        fault(text, NONE);
        for (int i = 0; i <= text.length(); i++) fault(text.substring(0, i) + " " + text.substring(i), i);
        fault("H0<1", 0);
        fault("a0<1", 0);
        fault("0", 0);
        fault("h0<1.5", 4);
        fault("h0<1,", 4);
        fault("h0<1&&h0<1", 5);
        fault("h0<1||h0<1", 5);
        fault("h0<1&|h0<1", 5);
        fault("h0!<1", 2);
        fault("h-1<1", 1);
    }

    /** Terms 5: "ITS FAULT is at the first SIGN". */
    private static void theFirstFaultOfSeveral() {
        fault("x", 0);
        fault("h0<1x", 4);
        fault("h0<1x)))", 4);
        fault("(h9<1", 1 + 1);
        fault("~~~~", 0);
        fault("h0<1& &", 5);
    }

    /** A text is read by itself, whatever was read before it. */
    private static void faultsOfTextsInTurn() {
        GroundWaters x = land();
        Lands.write(x, "((q0=1234567");
        due(39, "fault() of open brackets", x.fault(), 12);
        due(39, "fault() of open brackets, asked again", x.fault(), 12);
        Lands.write(x, "q0=0");
        due(39, "fault() behind them", x.fault(), NONE);
        due(40, "holds() behind them", x.holds(), 1);
        Lands.write(x, "q0=0)");
        due(39, "fault(): no bracket is open any more", x.fault(), 4);
        Lands.write(x, "!(q0=0)&!");
        due(39, "fault() of a text that is cut off", x.fault(), 9);
        Lands.write(x, "(q0=0)");
        due(40, "holds() behind it", x.holds(), 1);
        due(40, "holds() asked again", x.holds(), 1);
        Lands.write(x, "q0=1");
        Lands.write(x, "q0=");
        due(39, "fault() at the end of a shorter text", x.fault(), 3);
        Lands.write(x, "q0=0000001");
        due(40, "holds() of a longer number", x.holds(), 0);
        Lands.write(x, "q0=0");
        due(40, "holds() of a shorter number", x.holds(), 1);
    }

    private static void permitsOfTwoHundredSigns() {
        String deep = "(".repeat(98) + "q0=0" + ")".repeat(98);
        fault(deep, NONE);
        holds(deep, 1);
        fault("(".repeat(200), 200);
        fault("!".repeat(200), 200);
        fault("(".repeat(199) + ")", 199);
        fault("q0=0&".repeat(40), 200);
        fault("q0=0&".repeat(39) + "q0=0", NONE);
        holds("!".repeat(196) + "q0=0", 1);
        holds("!".repeat(196) + "q0=1", 0);
        holds("!".repeat(195) + "q0=0", 0);
        holds("!(".repeat(65) + "q0=0" + ")".repeat(65), 0);
        holds("!(".repeat(64) + "q0=0" + ")".repeat(64), 1);
        holds("q0=0&(".repeat(28) + "q0=0" + ")".repeat(28), 1);
        holds("q0=1|(".repeat(28) + "q0=1" + ")".repeat(28), 0);
        holds("q0=1|".repeat(39) + "q0=0", 1);
        holds("q0=0&".repeat(39) + "q0=1", 0);
    }

    /** Terms 5: "< or > or =": what is like is neither above nor below. */
    private static void comparesAtTheNumber() {
        GroundWaters x = land();
        x.rate(0, 5);
        String[] texts = {"q0<5", "q0>5", "q0=5", "q0<6", "q0>6", "q0=6", "q0<4", "q0>4", "q0=4"};
        int[] want = {0, 0, 1, 1, 0, 0, 0, 1, 0};
        for (int i = 0; i < texts.length; i++) {
            Lands.write(x, texts[i]);
            due(40, "holds() of " + texts[i] + " with a rate of 5", x.holds(), want[i]);
        }
    }

    private static void numbersAtTheirEdges() {
        holds("q0=0000000", 1);
        holds("q0=-0000000", 1);
        holds("q0=-0", 1);
        holds("q0>-1", 1);
        holds("q0<-1", 0);
        holds("h0<9999999", 1);
        holds("h0>-9999999", 1);
        holds("h0>9999999", 0);
        holds("h0<-9999999", 0);
        holds("h0=0019142", 1);
    }

    /** Terms 5: "g MILLI of what a RIVER gives (below 0: takes)", "f .. (from its first CELL)": MILLI, cut downwards. */
    private static void valuesBelowNothing() {
        GroundWaters x = new GroundWaters();
        x.cell(0, 1, 1);
        x.cell(0, 0, 1);
        for (int l = 0; l < 3; l++) x.link(1, 0, 1);
        x.river(1, 5, 0, 2);
        x.river(1, 5, 0, 1);
        // a third goes back by each link, two thirds and a third into the rivers
        String[] texts = {"f0=-334", "f2=-334", "f0<-333", "f0>-335", "g0=-667", "g1=-334", "h1=5333", "h0=5666", "f0=-333", "g0=667"};
        for (int i = 0; i < texts.length; i++) {
            Lands.write(x, texts[i]);
            due(40, "holds() of " + texts[i], x.holds(), i < 8 ? 1 : 0);
        }
    }

    /** A drain that does not run takes 0, a river that hangs at its stage gives 0. */
    private static void valuesThatAreNothing() {
        // 20 - h0 goes by eases of 1, 3 and 1 in a row to the drain at 18: 6/7; h0 = 134/7, h1 = 132/7
        holds("h0=19142", 1);
        holds("h1=18857", 1);
        holds("d0=857", 1);
        holds("d1=0", 1);
        holds("g0=857", 1);
        holds("g1=0", 1);
        holds("f0=285", 1);
        holds("f1=-572", 1);
        holds("q0=0", 1);
        holds("d1<0|d1>0|g1<0|g1>0", 0);
        holds("h0=19142&q0=0&d0=857&g0=857&f0=285&h1=18857", 1);
        holds("h0=0|q0=1|d0=0|g0=0|f0=0|h1=0", 0);
    }

    /** T and F stand for an asking that holds and one that does not. */
    private static void reads(String text, int want) {
        holds(text.replace("T", "q0=0").replace("F", "q0=1"), want);
    }

    /** Terms 5: "! before &": it takes the next ONE alone. */
    private static void notAheadOfAnd() {
        reads("!T", 0);
        reads("!F", 1);
        reads("!!T", 1);
        reads("!F&F", 0);
        reads("!(F&F)", 1);
        reads("!T|T", 1);
        reads("!(T|T)", 0);
        reads("T&!F", 1);
        reads("T&!F&F", 0);
        reads("!(F)|F", 1);
        reads("!(T)&T", 0);
        reads("!!F|F", 0);
    }

    /** Terms 5: "& before |". */
    private static void andAheadOfOr() {
        reads("T|T&F", 1);
        reads("(T|T)&F", 0);
        reads("F&T|T", 1);
        reads("F&(T|T)", 0);
        reads("F&F|T&T", 1);
        reads("T&F|F&T", 0);
        reads("F|T&F|T", 1);
        reads("F|T&F|F", 0);
        reads("T&T|F", 1);
        reads("F|F&T", 0);
    }

    private static void nests() {
        reads("(F|T)&(T|F)", 1);
        reads("(F|T)&(F|F)", 0);
        reads("((F|T)&T)|F", 1);
        reads("!((F|T)&!(T&F))", 0);
        reads("T&(F|(T&(F|T)))", 1);
        reads("T&(F|(T&(F|F)))", 0);
        reads("(T)&(T)&(F)", 0);
        reads("(F)|(F)|(T)", 1);
    }

    /** Promise 40: "STATE: it has no SIGNS". */
    private static void holdsWithoutSigns() {
        GroundWaters x = land();
        due(40, "holds() without signs", x.holds(), STATE);
        Lands.write(x, "q0=0");
        due(40, "holds()", x.holds(), 1);
        x.wipe();
        due(40, "holds() of a text wiped out", x.holds(), STATE);
    }

    /** Promise 40: "a FAULT". */
    private static void holdsWithAFault() {
        for (String text : new String[] {"q0=", "q0=0&", "q0=0)", "(q0=0", "q1=0", "x", "q0=00000000", " ", "q0=0 "}) holds(text, STATE);
    }

    /** Promise 40: "or there is NO REST (where it asks for one of h, g, d, f or not)". */
    private static void holdsWithoutRest() {
        for (String text : new String[] {"q0=0", "h0<0", "g0<0", "d0<0", "f0<0", "!q0=0", "q0=0|h0<0"}) {
            GroundWaters x = land();
            x.cell(0, 0, 1);
            Lands.write(x, text);
            due(39, "fault() of " + text + " without rest", x.fault(), NONE);
            due(40, "holds() of " + text + " without rest", x.holds(), STATE);
        }
    }
}
