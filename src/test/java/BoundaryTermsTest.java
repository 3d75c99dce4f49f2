import java.util.function.ToIntFunction;

/** The boundary cases of "What it is" and of the first sentences of "Terms": refused calls. */
public final class BoundaryTermsTest {
    private static final String LIMIT =
        "An object is used for at most 512 calls after it has been made; what later calls answer is free.";
    private static final String FIRST = "Calls that are refused answer, the first of these that fits:";
    private static final String NOTHING = "They change nothing.";
    private static final String NO_FAULT = "C.c";
    private static final String FULL_PAD = "A.aB.bC.cD.dE.exyz....zzzzzzzz";
    private static final int LEAST = Integer.MIN_VALUE;
    private static final int GREATEST = Integer.MAX_VALUE;

    public static void main(String[] args) throws Exception {
        Due.runAll(BoundaryTermsTest.class);
    }

    @Holds(in = "What it is", says = LIMIT)
    static void whatItIs_the511thAndThe512thCallAreAsPromised() {
        Counted x = Counted.told("A.a", 1, "");
        while (x.calls() < Counted.CALLS - 2) {
            x.told(0);
        }
        Due.due("the 511th call, link(0, 0)", x.link(0, 0), 1);
        Due.due("the 512th call, sign(2)", x.sign(2), (int) 'a');
        Due.due("calls", x.calls(), 512);
    }

    @Holds(in = "What it is", says = LIMIT)
    static void whatItIs_512CallsThatChangeAllAreAsPromised() {
        Counted x = Counted.told("A.a.", 2, "10");
        for (int round = 0; x.calls() + 4 <= Counted.CALLS; round++) {
            int there = 1 - round % 2;
            Due.due("link", x.link(0, 1), there);
            Due.due("WANTED to", x.pair(0, 5), there == 1 ? 2 : 0);
            Due.due("image", x.image(round % 2), 1);
            Due.due("restore", x.restore(round % 2), 1);
        }
    }

    @Holds(in = "What it is", says = LIMIT)
    static void whatItIs_callsBehindThe512thDoNotThrow() {
        TagCarrier x = new TagCarrier();
        for (int i = 0; i < 700; i++) {
            x.say(33 + i % 94);
            x.fault();
            x.load();
            x.target(i % 9);
            x.link(i % 12, i % 8);
            x.image(i % 2);
            x.restore(i % 2);
            x.sign(i % 22);
        }
    }

    @Holds(in = "Terms", says = FIRST)
    static void terms_unknownComesAheadOfOutside_pair() {
        Counted x = Counted.told("A.a", 1, "");
        Due.due("pair(5, 10)", x.pair(5, 10), -1);
        Due.due("pair(-1, -1)", x.pair(-1, -1), -1);
        Due.due("pair(1, 10): it is not there", x.pair(1, 10), -1);
        Due.due("pair(4, -1): it is not there", x.pair(4, -1), -1);
    }

    @Holds(in = "Terms", says = FIRST)
    static void terms_unknownComesAheadOfOutside_mark() {
        Counted x = Counted.told("x.", 1, "");
        Due.due("mark(3, 3)", x.mark(3, 3), -1);
        Due.due("mark(-1, -1)", x.mark(-1, -1), -1);
        Due.due("mark(1, 3): it is not there", x.mark(1, 3), -1);
        Due.due("mark(2, -1): it is not there", x.mark(2, -1), -1);
    }

    @Holds(in = "Terms", says = FIRST)
    static void terms_outsideComesAheadOfFull_say() {
        Counted x = new Counted();
        x.type(FULL_PAD);
        Due.due("say(32) on a full PAD", x.say(32), -2);
        Due.due("say(127) on a full PAD", x.say(127), -2);
        Due.due("say(33) on a full PAD", x.say(33), -4);
        Due.due("say(126) on a full PAD", x.say(126), -4);
    }

    @Holds(in = "Terms", says = FIRST)
    static void terms_outsideComesAheadOfState_restore() {
        Counted x = new Counted();
        Due.due("restore(-1), nothing is kept", x.restore(-1), -2);
        Due.due("restore(2), nothing is kept", x.restore(2), -2);
        Due.due("restore(0), nothing is kept", x.restore(0), -3);
    }

    @Holds(in = "Terms", says = "UNKNOWN -1 (there is no such WORD, PAIR, MARK),")
    static void terms_unknownIsMinus1() {
        Counted x = Counted.told("A.ax", 1, "");
        Due.due("UNKNOWN", TagCarrier.UNKNOWN, -1);
        Due.due("no such WORD of the SOURCE", x.link(1, 0), -1);
        Due.due("no such WORD of the TARGET", x.link(0, 1), -1);
        Due.due("no such PAIR", x.pair(1, 0), -1);
        Due.due("no such MARK", x.mark(1, 0), -1);
    }

    @Holds(in = "Terms", says = "OUTSIDE -2 (another number is not as told),")
    static void terms_outsideIsMinus2() {
        Counted x = Counted.told("A.ax", 1, "");
        Due.due("OUTSIDE", TagCarrier.OUTSIDE, -2);
        Due.due("say", x.say(0), -2);
        Due.due("target", x.target(9), -2);
        Due.due("pair", x.pair(0, 10), -2);
        Due.due("mark", x.mark(0, 3), -2);
        Due.due("total", x.total(8), -2);
        Due.due("image", x.image(2), -2);
        Due.due("restore", x.restore(2), -2);
        Due.due("told", x.told(3), -2);
    }

    @Holds(in = "Terms", says = "NO -5 (as told),")
    static void terms_noIsMinus5() {
        Counted x = new Counted();
        x.type("A");
        Due.due("NO", TagCarrier.NO, -5);
        Due.due("load", x.load(), -5);
    }

    @Holds(in = "Terms", says = "STATE -3 (as told),")
    static void terms_stateIsMinus3() {
        Due.due("STATE", TagCarrier.STATE, -3);
        Due.due("restore", new Counted().restore(1), -3);
    }

    @Holds(in = "Terms", says = "FULL -4.")
    static void terms_fullIsMinus4() {
        Counted x = new Counted();
        x.type(FULL_PAD);
        Due.due("FULL", TagCarrier.FULL, -4);
        Due.due("say", x.say('.'), -4);
    }

    /** Two objects that were told the same; one of them refuses a call, and is as the other one is. */
    private static void refused(String call, String pad, boolean bothImages, ToIntFunction<Counted> made, int want) {
        Counted x = Counted.rich(pad, bothImages);
        Due.due(call, made.applyAsInt(x), want);
        Due.due("what is there behind the refused " + call, x.seenThrough(), Counted.rich(pad, bothImages).seenThrough());
    }

    @Holds(in = "Terms", says = NOTHING)
    static void terms_refusedSayChangesNothing() {
        for (int sign : new int[] {32, 127, 0, -1, LEAST, GREATEST, '.' + 256, '.' - 256}) {
            refused("say(" + sign + ")", NO_FAULT, true, x -> x.say(sign), -2);
        }
        refused("say(46) on a full PAD", FULL_PAD, true, x -> x.say('.'), -4);
        refused("say(32) on a full PAD", FULL_PAD, true, x -> x.say(32), -2);
    }

    @Holds(in = "Terms", says = NOTHING)
    static void terms_refusedLoadChangesNothing() {
        refused("load() of what can not stand", "C.cc", true, Counted::load, -5);
        refused("load() of what is not closed", "C.cA.x", true, Counted::load, -5);
        refused("load() of a full PAD", FULL_PAD, true, Counted::load, -5);
    }

    @Holds(in = "Terms", says = NOTHING)
    static void terms_refusedTargetChangesNothing() {
        for (int words : new int[] {-1, 9, LEAST, GREATEST}) {
            refused("target(" + words + ")", NO_FAULT, true, x -> x.target(words), -2);
        }
    }

    @Holds(in = "Terms", says = NOTHING)
    static void terms_refusedLinkChangesNothing() {
        int[][] calls = {{-1, 0}, {3, 0}, {0, -1}, {0, 5}, {3, 5}, {-1, -1}, {12, 0}, {0, 8}, {0, 32}, {LEAST, 0},
            {GREATEST, 0}, {0, LEAST}, {0, GREATEST}};
        for (int[] call : calls) {
            refused("link(" + call[0] + ", " + call[1] + ")", NO_FAULT, true, x -> x.link(call[0], call[1]), -1);
        }
    }

    @Holds(in = "Terms", says = NOTHING)
    static void terms_refusedPairAndMarkAndTotalChangeNothing() {
        refused("pair(0, 0)", NO_FAULT, true, x -> x.pair(0, 0), -1);
        refused("pair(5, 0)", NO_FAULT, true, x -> x.pair(5, 0), -1);
        refused("pair(3, 10)", NO_FAULT, true, x -> x.pair(3, 10), -2);
        refused("mark(0, 0)", NO_FAULT, true, x -> x.mark(0, 0), -1);
        refused("mark(3, 0)", NO_FAULT, true, x -> x.mark(3, 0), -1);
        refused("mark(1, 3)", NO_FAULT, true, x -> x.mark(1, 3), -2);
        refused("total(8)", NO_FAULT, true, x -> x.total(8), -2);
        refused("total(-1)", NO_FAULT, true, x -> x.total(-1), -2);
    }

    @Holds(in = "Terms", says = NOTHING)
    static void terms_refusedImageChangesNothing() {
        for (int n : new int[] {-1, 2, LEAST, GREATEST}) {
            refused("image(" + n + ")", NO_FAULT, true, x -> x.image(n), -2);
            refused("image(" + n + "), one is kept", NO_FAULT, false, x -> x.image(n), -2);
        }
    }

    @Holds(in = "Terms", says = NOTHING)
    static void terms_refusedRestoreChangesNothing() {
        for (int n : new int[] {-1, 2, LEAST, GREATEST}) {
            refused("restore(" + n + ")", NO_FAULT, true, x -> x.restore(n), -2);
        }
        refused("restore(1), which was not kept", NO_FAULT, false, x -> x.restore(1), -3);
    }

    @Holds(in = "Terms", says = NOTHING)
    static void terms_refusedSignAndToldChangeNothing() {
        refused("sign(-2)", NO_FAULT, true, x -> x.sign(-2), -6);
        refused("sign(100)", NO_FAULT, true, x -> x.sign(100), -6);
        refused("told(3)", NO_FAULT, true, x -> x.told(3), -2);
        refused("told(13): no such WORD", NO_FAULT, true, x -> x.told(13), -2);
    }
}
