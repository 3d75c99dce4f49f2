/** The boundary cases of part 3 of "Terms": what is WRITTEN in each GAP, in which order. */
public final class BoundaryTerms3Test {
    private static final String WORDS = "WRITTEN: the WORDS of the TARGET as . and in each GAP, in this order:";
    private static final String HELD_BY_CLOSING = "EMPTY PAIRS (opened and closed there, one behind another, by number) that "
        + "any PAIR HOLDS that closes there, and is not EMPTY;";
    private static final String CLOSING = "PAIRS that close there, and are not EMPTY (those that were opened later first; of "
        + "one GAP by DEPTH, the greatest first, then by number, the greatest first);";
    private static final String MARKS = "MARKS, as they stood;";
    private static final String OTHER_EMPTY = "all other EMPTY PAIRS, but those that any PAIR HOLDS that is opened there, "
        + "and is not EMPTY;";
    private static final String OPENING = "PAIRS that are opened there, and are not EMPTY (those that close later first; of "
        + "one GAP by DEPTH, the least first, then by number);";
    private static final String HELD_BY_OPENING = "these EMPTY PAIRS.";

    public static void main(String[] args) throws Exception {
        Due.runAll(BoundaryTerms3Test.class);
    }

    private static void writtenIs(String source, int words, String links, String want) {
        Due.due("\"" + source + "\", " + words + " WORDS, LINKS " + links, Counted.told(source, words, links).written(), want);
    }

    @Holds(in = "Terms 3", says = WORDS)
    static void terms3_words_ofTheTargetAlone() {
        writtenIs("", 0, "", "");
        writtenIs("............", 0, "", "");
        writtenIs("", 1, "", ".");
        writtenIs("", 8, "", "........");
    }

    @Holds(in = "Terms 3", says = WORDS)
    static void terms3_words_theFirstAndTheLastGapAreWritten() {
        writtenIs("xA.ay", 8, "00 07", "xA........ay");
        writtenIs("xy", 0, "", "xy");
    }

    @Holds(in = "Terms 3", says = WORDS)
    static void terms3_words_allThereCanBe() {
        writtenIs("xA.aB.bC.cyD.dE.ez...", 8, "00 11 22 33 47", "xA.aB.bC.cyD.d...E.ez");
    }

    @Holds(in = "Terms 3", says = WORDS)
    static void terms3_order_allSixInOneGap() {
        writtenIs("A.BbaxCcDEe.d", 4, "01 12", ".A.BbaxCcDEe.d.");
        writtenIs("C.EecyAaBDd.b", 4, "01 12", ".C.EecyAaBDd.b.");
        writtenIs("A.xBbaCcDEeyz.d", 4, "01 12", ".A.BbaxyzCcDEe.d.");
    }

    @Holds(in = "Terms 3", says = HELD_BY_CLOSING)
    static void terms3_emptyHeldByWhatCloses_aheadOfIt() {
        writtenIs("A.Bba", 1, "00", "A.Bba");
        writtenIs("E.Aae", 1, "00", "E.Aae");
    }

    @Holds(in = "Terms 3", says = HELD_BY_CLOSING)
    static void terms3_emptyHeldByWhatCloses_byNumberOneBehindAnother() {
        writtenIs("A.EeDdCcBba", 1, "00", "A.BbCcDdEea");
        writtenIs("A.EDCBbcdea", 1, "00", "A.BbCcDdEea");
    }

    @Holds(in = "Terms 3", says = HELD_BY_CLOSING)
    static void terms3_emptyHeldByWhatCloses_byAnyOfThem() {
        writtenIs("A.B.bCca", 2, "00 11", "A.B.Ccba");
        writtenIs("A.B.Ccba", 2, "00 11", "A.B.Ccba");
    }

    @Holds(in = "Terms 3", says = HELD_BY_CLOSING)
    static void terms3_emptyThatWhatClosesDoesNotHoldIsBehindIt() {
        writtenIs("A.aBb", 1, "00", "A.aBb");
        writtenIs("A.axBb", 1, "00", "A.axBb");
    }

    @Holds(in = "Terms 3", says = HELD_BY_CLOSING)
    static void terms3_emptyThatWhatIsEmptyHoldsIsNoneOfThem() {
        writtenIs("A.aCBbcx", 1, "00", "A.axBbCc");
        writtenIs("CBbcx", 1, "", "xBbCc.");
    }

    @Holds(in = "Terms 3", says = CLOSING)
    static void terms3_closing_openedLaterFirst() {
        writtenIs("A.B.ba", 2, "00 11", "A.B.ba");
        writtenIs("A.aB.b", 2, "01 10 11", "B.A.ab");
        writtenIs("B.bA.a", 2, "01 10 11", "A.B.ba");
    }

    @Holds(in = "Terms 3", says = CLOSING)
    static void terms3_closing_openedLaterFirstThoughOfLessDepth() {
        writtenIs("C.A.acB.b", 3, "00 10 12 22", "CA..B.bac");
    }

    @Holds(in = "Terms 3", says = CLOSING)
    static void terms3_closing_ofOneGapTheDeepestFirst() {
        writtenIs("BA.ab", 1, "00", "BA.ab");
        writtenIs("EDCBA.abcde", 1, "00", "EDCBA.abcde");
        writtenIs("ABCDE.edcba", 1, "00", "ABCDE.edcba");
    }

    @Holds(in = "Terms 3", says = CLOSING)
    static void terms3_closing_ofOneDepthTheGreatestNumberFirst() {
        writtenIs("B.bA.a", 1, "00 10", "AB.ba");
        writtenIs("E.eD.dC.cB.bA.a", 1, "00 10 20 30 40", "ABCDE.edcba");
        writtenIs("DC.cdB.bA.a", 1, "00 10 20", "ABDC.cdba");
    }

    @Holds(in = "Terms 3", says = MARKS)
    static void terms3_marks_asTheyStood() {
        writtenIs("zyx", 0, "", "zyx");
        writtenIs("y.z.x", 1, "", "yzx.");
        writtenIs("xyz", 1, "", "xyz.");
    }

    @Holds(in = "Terms 3", says = MARKS)
    static void terms3_marks_behindWhatClosesAndAheadOfAllElse() {
        writtenIs("A.xa", 1, "00", "A.ax");
        writtenIs("Ax.a", 1, "00", "xA.a");
        writtenIs("A.aBbxC.c", 2, "00 11", "A.axBbC.c");
        writtenIs("A.Bbx.a", 2, "00 11", "A.xBb.a");
    }

    @Holds(in = "Terms 3", says = OTHER_EMPTY)
    static void terms3_otherEmpty_byNumber() {
        writtenIs("EeDdCcBbAa", 0, "", "AaBbCcDdEe");
        writtenIs("EDCBAabcde", 8, "", "AaBbCcDdEe........");
        writtenIs(".EeAa", 1, "00", ".AaEe");
    }

    @Holds(in = "Terms 3", says = OTHER_EMPTY)
    static void terms3_otherEmpty_inTheMidstOfWhatHoldsThem() {
        writtenIs("A.Bb.a", 2, "00 11", "A.Bb.a");
        writtenIs("A.xBb.a", 2, "00 11", "A.xBb.a");
    }

    @Holds(in = "Terms 3", says = OTHER_EMPTY)
    static void terms3_otherEmpty_aheadOfWhatIsOpenedAndDoesNotHoldThem() {
        writtenIs("BbA.a", 1, "00", "BbA.a");
        writtenIs("EeA.a", 1, "00", "EeA.a");
    }

    @Holds(in = "Terms 3", says = OPENING)
    static void terms3_opening_thoseThatCloseLaterFirst() {
        writtenIs("A.aB.b", 2, "00 10 11", "BA.a.b");
        writtenIs("B.bA.a", 2, "00 10 11", "AB.b.a");
        writtenIs("BA.a.b", 2, "00 11", "BA.a.b");
    }

    @Holds(in = "Terms 3", says = OPENING)
    static void terms3_opening_thoseThatCloseLaterFirstThoughOfGreaterDepth() {
        writtenIs("C.A.acB.b", 3, "00 10 12 20", "CAB.b..ac");
        writtenIs("CA.acB.b", 3, "00 02 10", "CAB.b..ac");
    }

    @Holds(in = "Terms 3", says = OPENING)
    static void terms3_opening_ofOneGapTheLeastDepthFirst() {
        writtenIs("CA.acB.b", 1, "00 10", "BCA.acb");
    }

    @Holds(in = "Terms 3", says = OPENING)
    static void terms3_opening_ofOneDepthByNumber() {
        writtenIs("E.eD.dC.cB.bA.a", 2, "01 11 21 31 41", ".ABCDE.edcba");
    }

    @Holds(in = "Terms 3", says = HELD_BY_OPENING)
    static void terms3_emptyHeldByWhatOpens_behindIt() {
        writtenIs("ABb.a", 1, "00", "ABb.a");
        writtenIs("EAa.e", 1, "00", "EAa.e");
    }

    @Holds(in = "Terms 3", says = HELD_BY_OPENING)
    static void terms3_emptyHeldByWhatOpens_byNumber() {
        writtenIs("AEeDdCcBb.a", 1, "00", "ABbCcDdEe.a");
        writtenIs("AEDCBbcde.a", 1, "00", "ABbCcDdEe.a");
    }

    @Holds(in = "Terms 3", says = HELD_BY_OPENING)
    static void terms3_emptyHeldByWhatOpens_byAnyOfThem() {
        writtenIs("ACcB.ba", 1, "00", "ABCc.ba");
        writtenIs("ACcB.ba", 2, "00", "ABCc.ba.");
    }
}
