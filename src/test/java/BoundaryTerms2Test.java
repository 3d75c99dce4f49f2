/** The boundary cases of part 2 of "Terms": SPAN, WANTED, MISSING, ANCHOR, PLACED, COST, MARKS. */
public final class BoundaryTerms2Test {
    private static final String TWELVE = "............";
    private static final String SPAN = "A SPAN is from one GAP of the TARGET to another one, no less.";
    private static final String WANTED = "WANTED of a PAIR: from the least WORD that is linked to any of the WORDS of the "
        + "SOURCE that it lies round to behind the greatest one.";
    private static final String MISSING = "If there is none, it is MISSING: WANTED is from its ANCHOR to that.";
    private static final String ANCHOR = "ANCHOR of a GAP of the SOURCE: behind the greatest WORD that is linked to the "
        + "nearest WORD ahead of that GAP that has a LINK;";
    private static final String APART = "PLACED: each PAIR that is there has a SPAN, so that of each two one's lies within "
        + "the other one's, or ends no later than the other one's begins;";
    private static final String HELD = "what a PAIR HOLDS lies within it.";
    private static final String STYLES = "PAIRS 0, 1 are STYLES: both far added;";
    private static final String LINKED = "2, 3 LINKED ones: both far added, and 2 for each WORD in WANTED that is not in its SPAN;";
    private static final String NOTE = "4 a NOTE: twice the greater far.";
    private static final String LEAST_COST = "Of all ways to PLACE them that of the least COST together;";
    private static final String TIES = "of as little that by which PAIR 0 begins the least, then ends the least, then PAIR 1, "
        + "and so on (those that are there).";
    private static final String MARK_WANTED = "MARKS that are there are WANTED at the ANCHOR of their GAP,";
    private static final String MARK_ORDER = "and PLACED at GAPS, so that one that is behind another one in the SOURCE is at "
        + "no lesser GAP;";
    private static final String MARK_TIES = "of as little the first one at the least GAP, then the next one.";

    public static void main(String[] args) throws Exception {
        Due.runAll(BoundaryTerms2Test.class);
    }

    private static String marks(Counted x, int what) {
        return x.mark(0, what) + " " + x.mark(1, what) + " " + x.mark(2, what);
    }

    @Holds(in = "Terms 2", says = SPAN)
    static void terms2_span_mayEndWhereItBegins() {
        Due.due("at GAP 0 of no WORDS", Counted.told("Aa", 0, "").placed(0), "0-0");
        Due.due("at GAP 0", Counted.told("Aa", 8, "").placed(0), "0-0");
        Due.due("at GAP 8", Counted.told(".Aa", 8, "07").placed(0), "8-8");
    }

    @Holds(in = "Terms 2", says = SPAN)
    static void terms2_span_mayBeTheWholeTarget() {
        Due.due("of 8 WORDS", Counted.told("A.a", 8, "00 07").placed(0), "0-8");
        Due.due("of 1 WORD", Counted.told("A.a", 1, "00").placed(0), "0-1");
    }

    @Holds(in = "Terms 2", says = WANTED)
    static void terms2_wanted_ofOneWord() {
        Due.due("the first", Counted.told("A.a", 8, "00").wanted(0), "0-1");
        Due.due("the last", Counted.told("A.a", 8, "07").wanted(0), "7-8");
    }

    @Holds(in = "Terms 2", says = WANTED)
    static void terms2_wanted_fromTheFirstToTheLastOfAllWords() {
        Due.due("of one WORD", Counted.told("A.a", 8, "07 00").wanted(0), "0-8");
        Due.due("of two WORDS", Counted.told("A..a", 8, "07 10").wanted(0), "0-8");
        Due.due("of the outermost of twelve", Counted.told("A" + TWELVE + "a", 8, "06 b1").wanted(0), "1-7");
    }

    @Holds(in = "Terms 2", says = WANTED)
    static void terms2_wanted_notOfTheWordsBesideIt() {
        Due.due("WORDS 0 and 2 are beside it", Counted.told(".A.a.", 8, "00 14 27").wanted(0), "4-5");
    }

    @Holds(in = "Terms 2", says = WANTED)
    static void terms2_wanted_ofTheWordsOfWhatItHolds() {
        Counted x = Counted.told("AB.ba", 8, "02 05");
        Due.due("the holder", x.wanted(0), "2-6");
        Due.due("the held one", x.wanted(1), "2-6");
    }

    @Holds(in = "Terms 2", says = MISSING)
    static void terms2_missing_roundNoWord() {
        Counted x = Counted.told(".Aa.", 8, "02 16");
        Due.due("MISSING", x.pair(0, 9), 1);
        Due.due("WANTED", x.wanted(0), "3-3");
    }

    @Holds(in = "Terms 2", says = MISSING)
    static void terms2_missing_roundWordsWithoutLinks() {
        Counted x = Counted.told(".A..a.", 8, "02 36");
        Due.due("MISSING", x.pair(0, 9), 1);
        Due.due("WANTED", x.wanted(0), "3-3");
    }

    @Holds(in = "Terms 2", says = MISSING)
    static void terms2_missing_notByOneLink() {
        Counted x = Counted.told(".A..a.", 8, "02 20 36");
        Due.due("MISSING", x.pair(0, 9), 0);
        Due.due("WANTED", x.wanted(0), "0-1");
        x.link(2, 0);
        Due.due("MISSING when it is gone", x.pair(0, 9), 1);
    }

    @Holds(in = "Terms 2", says = ANCHOR)
    static void terms2_anchor_ofTheWordJustAhead() {
        Due.due("the greatest of its LINKS", Counted.told("..Aa.", 8, "07 11 14 10 26").wanted(0), "5-5");
    }

    @Holds(in = "Terms 2", says = ANCHOR)
    static void terms2_anchor_ofTheNearestThatHasALink() {
        Due.due("the WORD just ahead has none", Counted.told("...Aa.", 8, "07 11 36").wanted(0), "2-2");
        Due.due("only the first one has", Counted.told(TWELVE + "Aa", 8, "06").wanted(0), "7-7");
    }

    @Holds(in = "Terms 2", says = ANCHOR)
    static void terms2_anchor_leastAndGreatest() {
        Due.due("behind WORD 0", Counted.told(".x", 8, "00").mark(0, 1), 1);
        Due.due("behind WORD 7", Counted.told(".x", 8, "07").mark(0, 1), 8);
    }

    @Holds(in = "Terms 2", says = "0, if none has.")
    static void terms2_anchor_0IfNoneAheadHasALink() {
        Due.due("no WORD ahead", Counted.told("Aa.", 8, "05").wanted(0), "0-0");
        Due.due("no LINK ahead", Counted.told("..Aa.", 8, "25").wanted(0), "0-0");
        Due.due("no WORD of the TARGET", Counted.told("..Aa.", 0, "").wanted(0), "0-0");
    }

    @Holds(in = "Terms 2", says = "(Of a PAIR: of the GAP where it opens.)")
    static void terms2_anchor_ofAPairWhereItOpens() {
        Counted x = Counted.told(".A.a.B.b", 8, "02 25");
        Due.due("opens at GAP 1", x.wanted(0), "3-3");
        Due.due("opens at GAP 3", x.wanted(1), "6-6");
    }

    @Holds(in = "Terms 2", says = APART)
    static void terms2_placed_oneMayEndWhereTheOtherBegins() {
        Counted x = Counted.told("A.aB.b", 2, "00 11");
        Due.due("both", x.carried(0) + ", " + x.carried(1), "0-1 at 0, 1-2 at 0");
    }

    @Holds(in = "Terms 2", says = APART)
    static void terms2_placed_bothMayHaveTheSameSpanOrOneEndOfIt() {
        Counted x = Counted.told("A.aB.b", 3, "00 02 10 12");
        Due.due("the same", x.carried(0) + ", " + x.carried(1), "0-3 at 0, 0-3 at 0");
        x = Counted.told("A.aB.b", 3, "00 10 12");
        Due.due("the same beginning", x.carried(0) + ", " + x.carried(1), "0-1 at 0, 0-3 at 0");
        x = Counted.told("A.aB.b", 3, "02 10 12");
        Due.due("the same end", x.carried(0) + ", " + x.carried(1), "2-3 at 0, 0-3 at 0");
    }

    @Holds(in = "Terms 2", says = APART)
    static void terms2_placed_thoseThatCrossByOneWordAreMended() {
        Counted x = Counted.told("A.aB.b", 3, "00 01 11 12");
        Due.due("WANTED", x.wanted(0) + ", " + x.wanted(1), "0-2, 1-3");
        Due.due("PLACED", x.carried(0) + ", " + x.carried(1), "0-1 at 1, 1-3 at 0");
    }

    @Holds(in = "Terms 2", says = APART)
    static void terms2_placed_anEmptyOneMayBeAtAnyGapOfAnother() {
        Counted x = Counted.told("A.a.Bb", 4, "00 03 11");
        Due.due("within", x.carried(0) + ", " + x.carried(1), "0-4 at 0, 2-2 at 0");
        x = Counted.told("BbA.a", 4, "00 03");
        Due.due("at the beginning", x.carried(0) + ", " + x.carried(1), "0-4 at 0, 0-0 at 0");
        x = Counted.told("A.aBb", 4, "00 03");
        Due.due("at the end", x.carried(0) + ", " + x.carried(1), "0-4 at 0, 4-4 at 0");
    }

    @Holds(in = "Terms 2", says = HELD)
    static void terms2_placed_whatIsHeldIsNotMovedAtTheEdges() {
        Counted x = Counted.told(".AB.b.a", 5, "00 21");
        Due.due("at the beginning", x.carried(0) + ", " + x.carried(1), "1-2 at 0, 1-1 at 0");
        x = Counted.told("A.Bba", 5, "01");
        Due.due("at the end", x.carried(0) + ", " + x.carried(1), "1-2 at 0, 2-2 at 0");
        x = Counted.told("AB.ba", 5, "02");
        Due.due("of the same SPAN", x.carried(0) + ", " + x.carried(1), "2-3 at 0, 2-3 at 0");
    }

    @Holds(in = "Terms 2", says = HELD)
    static void terms2_placed_whatIsHeldIsNotLeftOutside() {
        Counted x = Counted.told(".AB.b.a", 5, "03 20");
        Due.due("WANTED behind it", x.wanted(0) + ", " + x.wanted(1), "0-1, 4-4");
        Due.due("PLACED", x.carried(0) + ", " + x.carried(1), "0-4 at 3, 4-4 at 0");
        x = Counted.told("ABb.a", 5, "03");
        Due.due("WANTED ahead of it", x.wanted(0) + ", " + x.wanted(1), "3-4, 0-0");
        Due.due("PLACED", x.carried(0) + ", " + x.carried(1), "0-4 at 3, 0-0 at 0");
    }

    @Holds(in = "Terms 2", says = HELD)
    static void terms2_placed_heldByTheOutermostOfFive() {
        Counted x = Counted.told("ABCDEe.dcba", 8, "07");
        for (int p = 0; p < 4; p++) {
            Due.due("WANTED of PAIR " + p, x.wanted(p), "7-8");
            Due.due("PLACED of PAIR " + p, x.carried(p), "7-8 at 0");
        }
        Due.due("WANTED of PAIR 4", x.wanted(4), "0-0");
        Due.due("PLACED of PAIR 4", x.carried(4), "7-7 at 14");
    }

    @Holds(in = "Terms 2", says = "COST: by KINDS, far being how far its beginning is from that of WANTED, and its end from that:")
    static void terms2_cost_0OfAllThatAreWhereTheyAreWanted() {
        Counted x = Counted.told("A.aB.bC.cD.dE.e", 8, "00 12 24 36 47");
        for (int p = 0; p < 5; p++) {
            Due.due("WANTED and PLACED of PAIR " + p, x.carried(p), x.wanted(p) + " at 0");
        }
        Due.due("all", x.total(0), 0);
    }

    @Holds(in = "Terms 2", says = "COST: by KINDS, far being how far its beginning is from that of WANTED, and its end from that:")
    static void terms2_cost_farAlikeToBothSides() {
        Counted x = Counted.told("ABb.a", 8, "07");
        Due.due("the beginning is 7 less", x.carried(0), "0-8 at 7");
        x = Counted.told(".ABb.a", 8, "07 10");
        Due.due("the end is 7 more", x.carried(0), "0-8 at 7");
    }

    @Holds(in = "Terms 2", says = STYLES)
    static void terms2_cost_pair0IsAStyle_aWordLostIsNotCounted() {
        Due.due("PAIR 0", Counted.told("A.aB.bC.cE.e", 8, "00 04 14 17 24 27 34 37").carried(0), "0-4 at 1");
    }

    @Holds(in = "Terms 2", says = STYLES)
    static void terms2_cost_pair1IsAStyle_aWordLostIsNotCounted() {
        Due.due("PAIR 1", Counted.told("B.bA.aC.cE.e", 8, "00 04 14 17 24 27 34 37").carried(1), "0-4 at 1");
    }

    @Holds(in = "Terms 2", says = STYLES)
    static void terms2_cost_aStyleWithBothEndsFar() {
        Due.due("5 and 1", Counted.told("A.Ee.aD.C.cd", 8, "36 15 34").carried(0), "0-7 at 6");
        Due.due("5 and 1", Counted.told("BDC.cd.bE.e", 8, "23 15 26").carried(1), "0-7 at 6");
    }

    @Holds(in = "Terms 2", says = LINKED)
    static void terms2_cost_pair2IsALinkedOne_aWordLostIs2() {
        Due.due("PAIR 2", Counted.told("C.cA.aB.bE.e", 8, "00 04 14 17 24 27 34 37").carried(2), "0-4 at 3");
    }

    @Holds(in = "Terms 2", says = LINKED)
    static void terms2_cost_pair3IsALinkedOne_aWordLostIs2() {
        Due.due("PAIR 3", Counted.told("D.dA.aB.bE.e", 8, "00 04 14 17 24 27 34 37").carried(3), "0-4 at 3");
    }

    @Holds(in = "Terms 2", says = LINKED)
    static void terms2_cost_aLinkedOneThatGainsWordsHasLostNone() {
        Counted x = Counted.told("C.cD.d", 3, "00 01 11 12");
        Due.due("PAIR 2", x.carried(2), "0-2 at 0");
        Due.due("PAIR 3", x.carried(3), "0-3 at 1");
        Due.due("both ends far", Counted.told("C.Bb.cD.d", 8, "24 25 14").carried(2), "0-6 at 5");
        Due.due("both ends far", Counted.told("D.B.b.dC.c", 8, "35 24 34").carried(3), "0-6 at 5");
    }

    @Holds(in = "Terms 2", says = LINKED)
    static void terms2_cost_aLinkedOneThatLosesItsOnlyWord() {
        Counted x = Counted.told("C.B.b.c.E.A.aeD.d.", 8, "62 23 56 53 57");
        Due.due("WANTED", x.wanted(2), "3-4");
        Due.due("PLACED", x.carried(2), "0-3 at 6");
    }

    @Holds(in = "Terms 2", says = LINKED)
    static void terms2_cost_aLinkedOneThatIsMissingHasNoWordToLose() {
        Due.due("PAIR 2", Counted.told("B.E.Cc.eb", 8, "21").carried(2), "1-1 at 2");
        Due.due("PAIR 3", Counted.told("A.ED.d.ea", 8, "23").carried(3), "3-3 at 6");
    }

    @Holds(in = "Terms 2", says = NOTE)
    static void terms2_cost_pair4IsANote_oneEndFar() {
        Due.due("1 and 0", Counted.told("E.eA.aB.bC.c", 8, "00 04 14 17 24 27 34 37").carried(4), "0-4 at 2");
    }

    @Holds(in = "Terms 2", says = NOTE)
    static void terms2_cost_pair4IsANote_bothEndsFar() {
        Due.due("1 and 1", Counted.told("D.dE.e", 8, "16 11 05 07").carried(4), "0-8 at 2");
        Due.due("4 and 1", Counted.told("E.Bb.C.ce", 8, "24 15").carried(4), "0-5 at 8");
        Due.due("3 and 3, as 3 and 0 is no less", Counted.told("ECc.e", 8, "03").carried(4), "0-1 at 6");
    }

    @Holds(in = "Terms 2", says = LEAST_COST)
    static void terms2_leastCost_oneIsMovedSoonerThanThree() {
        Counted x = Counted.told("E.eA..aB..bC..c", 8, "00 03 13 27 33 47 53 67");
        Due.due("the NOTE at 2", x.carried(4), "0-3 at 2");
        Due.due("all", x.total(0), 2);
    }

    @Holds(in = "Terms 2", says = LEAST_COST)
    static void terms2_leastCost_theStyleIsMovedSoonerThanTheNote() {
        Counted x = Counted.told("E.eB.b", 3, "00 01 11 12");
        Due.due("the STYLE at 1", x.carried(1), "0-3 at 1");
        Due.due("the NOTE", x.carried(4), "0-2 at 0");
    }

    @Holds(in = "Terms 2", says = LEAST_COST)
    static void terms2_leastCost_theLinkedOneIsWidenedSoonerThanItLosesAWord() {
        Counted x = Counted.told("D.dE.e", 3, "00 01 11 12");
        Due.due("the LINKED one at 1", x.carried(3), "0-3 at 1");
        Due.due("the NOTE", x.carried(4), "1-3 at 0");
    }

    @Holds(in = "Terms 2", says = TIES)
    static void terms2_ties_pair0BeginsTheLeast() {
        Counted x = Counted.told("B.bA.a", 3, "00 01 11 12");
        Due.due("WANTED", x.wanted(0) + ", " + x.wanted(1), "1-3, 0-2");
        Due.due("PLACED", x.carried(0) + ", " + x.carried(1), "0-3 at 1, 0-2 at 0");
    }

    @Holds(in = "Terms 2", says = TIES)
    static void terms2_ties_thenPair0EndsTheLeast() {
        Counted x = Counted.told("A.aB.b", 3, "00 01 11 12");
        Due.due("0-3 would be at 1, too", x.carried(0), "0-1 at 1");
    }

    @Holds(in = "Terms 2", says = TIES)
    static void terms2_ties_thenPair1BeginsTheLeast() {
        Counted x = Counted.told("A.aC.cB.b", 8, "00 11 12 22 23");
        Due.due("PAIR 0 is where it is WANTED", x.carried(0), "0-1 at 0");
        Due.due("PAIR 1, not 3-4", x.carried(1), "1-4 at 1");
        Due.due("PAIR 2", x.carried(2), "1-3 at 0");
    }

    @Holds(in = "Terms 2", says = TIES)
    static void terms2_ties_ofThoseThatAreThere_pair1IfPair0IsNot() {
        Counted x = Counted.told("E.eB.b", 3, "00 01 11 12");
        Due.due("PAIR 1 begins the least", x.carried(1), "0-3 at 1");
        x = Counted.told("B.bE.e", 3, "00 01 11 12");
        Due.due("PAIR 1 ends the least", x.carried(1), "0-1 at 1");
    }

    @Holds(in = "Terms 2", says = TIES)
    static void terms2_ties_ofThoseThatAreThere_pair2IfPairs0And1AreNot() {
        Counted x = Counted.told("D.dC.c", 3, "00 01 11 12");
        Due.due("PAIR 2 begins the least", x.carried(2) + ", " + x.carried(3), "0-3 at 1, 0-2 at 0");
        x = Counted.told("C.cD.d", 3, "00 01 11 12");
        Due.due("PAIR 2 ends the least", x.carried(2) + ", " + x.carried(3), "0-2 at 0, 0-3 at 1");
    }

    @Holds(in = "Terms 2", says = TIES)
    static void terms2_ties_pair3AheadOfPair4() {
        Counted x = Counted.told(".EDd.e", 4, "02 11");
        Due.due("PAIR 3 begins the least", x.carried(3) + ", " + x.carried(4), "2-2 at 2, 1-2 at 0");
    }

    @Holds(in = "Terms 2", says = TIES)
    static void terms2_ties_lastPair4EndsTheLeast() {
        Due.due("1 to 7 would be at 6, too", Counted.told("ECc.e", 8, "03").placed(4), "0-1");
    }

    @Holds(in = "Terms 2", says = MARK_WANTED)
    static void terms2_marks_wantedAtTheAnchor() {
        Counted x = Counted.told("x.y...........z", 8, "07");
        Due.due("GAPS", marks(x, 0), "0 1 12");
        Due.due("none ahead, just behind, far behind", marks(x, 1), "0 8 8");
    }

    @Holds(in = "Terms 2", says = MARK_WANTED)
    static void terms2_marks_wantedAt0OfNoWords() {
        Due.due("no WORD of the TARGET", marks(Counted.told("x.y.z", 0, ""), 1), "0 0 0");
        Due.due("no WORD of the SOURCE", marks(Counted.told("xyz", 8, ""), 1), "0 0 0");
    }

    @Holds(in = "Terms 2", says = MARK_ORDER)
    static void terms2_marks_mayBeAtOneGap() {
        Counted x = Counted.told(".xyz", 8, "04");
        Due.due("PLACED", marks(x, 2), "5 5 5");
        Due.due("moved", x.total(1), 0);
    }

    @Holds(in = "Terms 2", says = MARK_ORDER)
    static void terms2_marks_mayBeAtTheFirstAndTheLastGap() {
        Counted x = Counted.told("x.y.z", 8, "03 17");
        Due.due("PLACED", marks(x, 2), "0 4 8");
        Due.due("moved", x.total(1), 0);
    }

    @Holds(in = "Terms 2", says = MARK_ORDER)
    static void terms2_marks_theOrderIsThatOfTheSource() {
        Counted x = Counted.told(".z.y.x", 8, "01 13 25");
        Due.due("PLACED", marks(x, 2), "6 4 2");
        Due.due("moved", x.total(1), 0);
        x = Counted.told(".z.y.x", 8, "07 13 20");
        Due.due("PLACED in order", marks(x, 2), "4 4 4");
    }

    @Holds(in = "Terms 2", says = "by how far they are from WANTED, added, the least;")
    static void terms2_marks_movedTheLeast() {
        Counted x = Counted.told(".x.y.z", 8, "06 10 27");
        Due.due("WANTED", marks(x, 1), "7 1 8");
        Due.due("moved", x.total(1), 6);
        Due.due("the last one is not moved", x.mark(2, 2), 8);
        Due.due("by 1", Counted.told(".x.y.z", 8, "03 12 27").total(1), 1);
    }

    @Holds(in = "Terms 2", says = MARK_TIES)
    static void terms2_marks_theFirstOneAtTheLeastGap() {
        Due.due("7, 7 would be 6, too", marks(Counted.told(".x.y.z", 8, "06 10 27"), 2), "1 1 8");
        Due.due("4, 4 would be 1, too", marks(Counted.told(".x.y.z", 8, "03 12 27"), 2), "3 3 8");
    }

    @Holds(in = "Terms 2", says = MARK_TIES)
    static void terms2_marks_thenTheNextOneAtTheLeastGap() {
        Due.due("1, 6, 6 would be 3, too", marks(Counted.told(".x.y.z", 8, "00 15 22"), 2), "1 3 3");
    }
}
