/** Promises 37 to 40: permits as texts with their first fault. */
public final class PermitTest {
    private static final Check CHECK = new Check("PermitTest");
    private static final int BAD = -10000002, STATE = -10000003, FULL = -10000004, NONE = -10000009;

    public static void main(String[] args) {
        signs();
        faults();
        longTexts();
        values();
        joints();
        states();
        CHECK.end();
    }

    private static void due(int promise, String call, long got, long want) {
        CHECK.due("promise " + promise, call, got, want);
    }

    private static void put(GroundWaters x, String text) {
        x.wipe();
        for (int i = 0; i < text.length(); i++) x.sign(text.charAt(i));
    }

    /** Two cells and links, a river that gives, one that takes, a drain that runs, one that does not, a well. */
    private static GroundWaters land() {
        GroundWaters x = new GroundWaters();
        x.cell(0, 0, 1);
        x.cell(0, 0, 1);
        x.river(0, 20, 0, 1);
        x.link(0, 1, 3);
        x.link(1, 0, 1);
        x.river(1, 5, 0, 1);
        x.drain(1, 9, 2);
        x.drain(1, 30, 1);
        x.well(1, 9, 1);
        x.rate(0, 1);
        return x;
    }

    private static void signs() {
        GroundWaters x = new GroundWaters();
        due(37, "sign(31)", x.sign(31), BAD);
        due(37, "sign(127)", x.sign(127), BAD);
        due(37, "sign(-1)", x.sign(-1), BAD);
        due(38, "wipe() of nothing", x.wipe(), 0);
        due(37, "sign(32)", x.sign(32), 1);
        due(37, "sign(126)", x.sign(126), 2);
        due(48, "count(6)", x.count(6), 2);
        due(38, "wipe()", x.wipe(), 2);
        due(48, "count(6)", x.count(6), 0);
        for (int i = 1; i <= 200; i++) due(37, "sign " + i, x.sign('!'), i);
        due(37, "sign 201 that is bad", x.sign(0), BAD);
        due(37, "sign 201", x.sign('!'), FULL);
        due(39, "fault() at its end", x.fault(), 200);
        due(38, "wipe()", x.wipe(), 200);
        due(37, "sign(33)", x.sign(33), 1);
    }

    private static void fault(GroundWaters x, String text, int want) {
        put(x, text);
        due(39, "fault() of " + text, x.fault(), want);
    }

    private static void faults() {
        GroundWaters x = land();
        String[] good = {"h0>0", "h1<-1", "q0=9999999", "g1=-9999999", "d1>0000000", "f1<5", "!h0>0", "!!!h0>0", "(h0>0)", "((h0>0))",
            "!(h0>0)", "h0>0&h0>0", "h0>0|h0>0", "h0>0&h0>0|h0>0&!h0>0", "(h0>0|h0>0)&h0>0", "(!(h0>0))", "h0>-0"};
        for (String text : good) fault(x, text, NONE);
        fault(x, "", NONE);
        String[] cut = {"h", "h0", "h0>", "h0>-", "!", "(", "(h0>0", "h0>0&", "h0>0|", "((h0>0)", "!(", "h0>0&!", "h0>0|(", "g", "f"};
        for (String text : cut) fault(x, text, text.length());
        fault(x, " h0>0", 0);
        fault(x, "h0>0 ", 4);
        fault(x, "h 0>0", 1);
        fault(x, "h0 >0", 2);
        fault(x, "h0> 0", 3);
        fault(x, ")", 0);
        fault(x, "()", 1);
        fault(x, "&h0>0", 0);
        fault(x, "|h0>0", 0);
        fault(x, "h0>0&&h0>0", 5);
        fault(x, "h0>0&|h0>0", 5);
        fault(x, "h0>0!h0>0", 4);
        fault(x, "h0>0(h0>0)", 4);
        fault(x, "h0>0h0>0", 4);
        fault(x, "(h0>0)h0>0", 6);
        fault(x, "(h0>0)0", 6);
        fault(x, "(h0>0)!", 6);
        fault(x, "(h0>0)(h0>0)", 6);
        fault(x, "h0>0)", 4);
        fault(x, "(h0>0))", 6);
        fault(x, "h0>--1", 4);
        fault(x, "h0>1-", 4);
        fault(x, "h0>-)", 4);
        fault(x, "h0>=1", 3);
        fault(x, "h0!1", 2);
        fault(x, "h0>12345678", 10);
        fault(x, "h0>-12345678", 11);
        fault(x, "x0>1", 0);
        fault(x, "H0>1", 0);
        fault(x, "0>1", 0);
        fault(x, "h2>1", 1);
        fault(x, "q1>1", 1);
        fault(x, "g2>1", 1);
        fault(x, "d2>1", 1);
        fault(x, "f2>1", 1);
        fault(x, "h9", 1);
        fault(x, "h00>1", 2);
        fault(x, "h0>1&q7>1", 6);
        fault(x, "h/>1", 1);
        fault(x, "h:>1", 1);
        GroundWaters y = new GroundWaters();
        fault(y, "h0>1", 1);
        fault(y, "h", 1);
        y.cell(0, 0, 1);
        due(39, "fault(): a cell that comes does not help", y.fault(), 1);
        fault(y, "h0>1", NONE);
        fault(y, "h1>1", 1);
        y.cell(0, 0, 1);
        due(39, "fault(): now that cell is there", y.fault(), NONE);
        for (int i = 0; i < 12; i++) y.link(0, 1, 1);
        fault(y, "f9=0", NONE);
        fault(y, "f10=0", 2);
    }

    private static void longTexts() {
        GroundWaters x = land();
        String open = "(".repeat(98), shut = ")".repeat(98);
        fault(x, open + "h0>0" + shut, NONE);
        due(40, "holds() of 98 brackets", x.holds(), 1);
        put(x, "(!".repeat(65) + "h0>0" + ")".repeat(65));
        due(40, "holds() of 65 nots in brackets", x.holds(), 0);
        put(x, "!".repeat(196) + "h0>0");
        due(40, "holds() of 196 nots", x.holds(), 1);
        put(x, "!".repeat(195) + "h0>0");
        due(40, "holds() of 195 nots", x.holds(), 0);
        put(x, "h0>0&".repeat(39) + "h0<0");
        due(40, "holds() of 40 askings", x.holds(), 0);
        put(x, "h0<0|".repeat(39) + "h0>0");
        due(40, "holds() of 40 askings, one of which holds", x.holds(), 1);
        fault(x, "(".repeat(200), 200);
        due(40, "holds() of brackets alone", x.holds(), STATE);
    }

    private static void holds(GroundWaters x, String text, int want) {
        put(x, text);
        due(40, "holds() of " + text, x.holds(), want);
    }

    private static void values() {
        GroundWaters x = land();
        long[] told = {x.milli(0), x.milli(1), x.gives(0), x.gives(1), x.takes(0), x.takes(1), x.flow(0), x.flow(1), 1};
        String[] names = {"h0", "h1", "g0", "g1", "d0", "d1", "f0", "f1", "q0"};
        for (int i = 0; i < names.length; i++) {
            holds(x, names[i] + "=" + told[i], 1);
            holds(x, names[i] + "=" + (told[i] + 1), 0);
            holds(x, names[i] + ">" + told[i], 0);
            holds(x, names[i] + ">" + (told[i] - 1), 1);
            holds(x, names[i] + "<" + told[i], 0);
            holds(x, names[i] + "<" + (told[i] + 1), 1);
        }
        due(15, "gives(1): the second river takes", told[3] < 0 ? 1 : 0, 1);
        due(14, "flow(1): back", told[7] < 0 ? 1 : 0, 1);
        holds(x, "h0>-9999999", 1);
        holds(x, "h0<9999999", 1);
        holds(x, "q0=-0", 0);
        x.rate(0, 0);
        holds(x, "q0=-0", 1);
        holds(x, "q0=0000000", 1);
    }

    private static void joints() {
        GroundWaters x = land();
        // T and F for an asking that holds and one that does not
        String[] texts = {"T", "F", "!T", "!F", "!!T", "T&T", "T&F", "F&T", "F&F", "T|T", "T|F", "F|T", "F|F", "T|T&F", "F&T|T", "F&F|T", "T|F&F",
            "F&(T|T)", "(T|T)&F", "!F&F", "!(F&F)", "!T|T", "!(T|T)", "!F|F", "F|!F&T", "(F|T)&(T|F)", "(F|T)&(F|F)", "!(!T&F)", "!((F))", "T&!(F|F)&T",
            "F|F|T", "T&T&F", "F|(T&!F)", "!!(F)|F", "T&(F|(T&(F|T)))"};
        String want = "10" + "01" + "1" + "1000" + "1110" + "1111" + "00" + "01" + "10" + "1" + "1" + "1" + "0" + "1" + "1" + "1" + "10" + "1" + "0" + "1";
        due(40, "the test itself", want.length(), texts.length);
        for (int i = 0; i < texts.length; i++) {
            holds(x, texts[i].replace("T", "q0=1").replace("F", "q0=2"), want.charAt(i) - '0');
        }
    }

    private static void states() {
        GroundWaters x = new GroundWaters();
        x.cell(0, 0, 1);
        x.well(0, 9, 1);
        due(40, "holds() without signs", x.holds(), STATE);
        put(x, "q0=0");
        due(39, "fault()", x.fault(), NONE);
        due(40, "holds() without rest, though it asks for a rate alone", x.holds(), STATE);
        x.river(0, 5, 0, 1);
        due(40, "holds()", x.holds(), 1);
        x.rate(0, 5);
        due(40, "holds() with another rate", x.holds(), 0);
        x.rate(0, 6);
        due(40, "holds() without rest", x.holds(), STATE);
        x.rate(0, 0);
        x.sign('&');
        due(40, "holds() of a text with a fault", x.holds(), STATE);
        x.wipe();
        due(40, "holds() of a text wiped out", x.holds(), STATE);
        due(39, "fault() of a text wiped out", x.fault(), NONE);
    }
}
