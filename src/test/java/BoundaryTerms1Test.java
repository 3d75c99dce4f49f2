/** The boundary cases of part 1 of "Terms": the SOURCE, the PAD, THE FAULT, DEPTH, the TARGET, LINKS. */
public final class BoundaryTerms1Test {
    private static final String TWELVE = "............";
    /** All that a SOURCE can have: 12 WORDS, 5 PAIRS, 3 MARKS, on 25 signs. */
    private static final String ALL = "xA.B.C.D.E.y.e.d.c.b.az..";
    private static final String GAPS = "in GAPS (GAP g: ahead of WORD g; behind the last one: as many as there are);";
    private static final String ONCE = "each PAIR, each MARK is there once, or not at all.";
    private static final String PLACE = "THE FAULT: the place (from 0 on) of the first sign that can not stand there";
    private static final String NOT_OPENED = "what closes, but is not what was opened last and is not closed),";
    private static final String YET = "or the number of signs, if a PAIR must be closed yet.";

    public static void main(String[] args) throws Exception {
        Due.runAll(BoundaryTerms1Test.class);
    }

    private static void faultIs(String signs, int want) {
        Counted x = new Counted();
        x.type(signs);
        Due.due("fault of \"" + signs + "\"", x.fault(), want);
    }

    private static void wordsAre(String signs, int want) {
        Counted x = new Counted();
        x.type(signs);
        Due.due("load of \"" + signs + "\"", x.load(), want);
    }

    @Holds(in = "Terms 1", says = "The SOURCE is a row of up to 12 WORDS,")
    static void terms1_sourceOf0And1And11And12Words() {
        wordsAre("", 0);
        wordsAre(".", 1);
        wordsAre("...........", 11);
        wordsAre(TWELVE, 12);
        wordsAre(TWELVE + ".", -5);
    }

    @Holds(in = "Terms 1", says = "with PAIRS 0 to 4")
    static void terms1_pairs0To4() {
        Counted x = Counted.told("A.aB.bC.cD.dE.e", 1, "");
        Due.due("PAIR -1", x.pair(-1, 0), -1);
        for (int p = 0; p <= 4; p++) {
            Due.due("PAIR " + p, x.pair(p, 0), p);
        }
        Due.due("PAIR 5", x.pair(5, 0), -1);
    }

    @Holds(in = "Terms 1", says = "and MARKS 0 to 2")
    static void terms1_marks0To2() {
        Counted x = Counted.told("x.y.z", 1, "");
        Due.due("MARK -1", x.mark(-1, 0), -1);
        for (int m = 0; m <= 2; m++) {
            Due.due("MARK " + m, x.mark(m, 0), m);
        }
        Due.due("MARK 3", x.mark(3, 0), -1);
    }

    @Holds(in = "Terms 1", says = GAPS)
    static void terms1_gap0IsAheadOfTheFirstWord() {
        Counted x = Counted.told("xA.a", 1, "");
        Due.due("MARK", x.mark(0, 0), 0);
        Due.due("PAIR opens", x.pair(0, 0), 0);
    }

    @Holds(in = "Terms 1", says = GAPS)
    static void terms1_gap12IsBehindTheLastOfTwelveWords() {
        Counted x = Counted.told("...........A.Bbax", 1, "");
        Due.due("PAIR opens ahead of WORD 11", x.pair(0, 0), 11);
        Due.due("PAIR closes", x.pair(0, 1), 12);
        Due.due("PAIR opens", x.pair(1, 0), 12);
        Due.due("MARK", x.mark(0, 0), 12);
    }

    @Holds(in = "Terms 1", says = GAPS)
    static void terms1_ofNoWordsGap0IsTheOnlyOne() {
        Counted x = Counted.told("xAay", 1, "");
        Due.due("all GAPS", x.mark(0, 0) + " " + x.pair(0, 0) + " " + x.pair(0, 1) + " " + x.mark(1, 0), "0 0 0 0");
    }

    @Holds(in = "Terms 1", says = ONCE)
    static void terms1_eachPairNotTwice() {
        for (char c = 'A'; c <= 'E'; c++) {
            char closes = Character.toLowerCase(c);
            faultIs("" + c + "." + closes, -6);
            faultIs("" + c + "." + c + closes, 2);
            faultIs("" + c + "." + closes + c + "." + closes, 3);
        }
    }

    @Holds(in = "Terms 1", says = ONCE)
    static void terms1_eachMarkNotTwice() {
        for (char c = 'x'; c <= 'z'; c++) {
            faultIs("" + c, -6);
            faultIs("" + c + c, 1);
            faultIs("" + c + "." + c, 2);
        }
    }

    @Holds(in = "Terms 1", says = ONCE)
    static void terms1_notAtAll() {
        Counted x = Counted.told(TWELVE, 8, "");
        for (int p = 0; p < 5; p++) {
            Due.due("PAIR " + p, x.pair(p, 0), -1);
        }
        for (int m = 0; m < 3; m++) {
            Due.due("MARK " + m, x.mark(m, 0), -1);
        }
    }

    @Holds(in = "Terms 1", says = "It is told on a PAD (30 signs at most,")
    static void terms1_padOf30Signs() {
        Counted x = new Counted();
        for (int i = 1; i <= 30; i++) {
            Due.due("sign " + i, x.say('!'), i);
        }
        Due.due("sign 31", x.say('!'), -4);
        Due.due("signs", x.told(0), 30);
    }

    @Holds(in = "Terms 1", says = "codes 33 to 126):")
    static void terms1_codes33To126() {
        Counted x = new Counted();
        Due.due("32", x.say(32), -2);
        Due.due("33", x.say(33), 1);
        Due.due("126", x.say(126), 2);
        Due.due("127", x.say(127), -2);
    }

    @Holds(in = "Terms 1", says = ". for a WORD,")
    static void terms1_besideThePointStandsNoSign() {
        wordsAre(".", 1);
        faultIs("-", 0);
        faultIs("/", 0);
    }

    @Holds(in = "Terms 1", says = "A to E for a PAIR that opens,")
    static void terms1_aToEOpen_whatIsBesideCanNotStand() {
        faultIs("@", 0);
        faultIs("A", 1);
        faultIs("E", 1);
        faultIs("F", 0);
    }

    @Holds(in = "Terms 1", says = "a to e for that which closes,")
    static void terms1_aToEClose_whatIsBesideCanNotStand() {
        faultIs("A.a", -6);
        faultIs("E.e", -6);
        faultIs("A.`", 2);
        faultIs("E.f", 2);
    }

    @Holds(in = "Terms 1", says = "x to z for a MARK.")
    static void terms1_xToZ_whatIsBesideCanNotStand() {
        faultIs("w", 0);
        faultIs("x", -6);
        faultIs("z", -6);
        faultIs("{", 0);
    }

    @Holds(in = "Terms 1", says = PLACE)
    static void terms1_allOtherCodesCanNotStand() {
        for (int code = 33; code <= 126; code++) {
            boolean stands = ".ABCDExyz".indexOf(code) >= 0;
            boolean opens = code >= 'A' && code <= 'E';
            faultIs("" + (char) code, opens ? 1 : stands ? -6 : 0);
        }
    }

    @Holds(in = "Terms 1", says = PLACE)
    static void terms1_thePlaceIsFrom0On() {
        faultIs("a", 0);
        faultIs(".a", 1);
        faultIs(ALL + "!", 25);
        faultIs(ALL + "!!!!!", 25);
    }

    @Holds(in = "Terms 1", says = PLACE)
    static void terms1_theFirstOfSeveral() {
        faultIs("..!..?", 2);
        faultIs("xx.aA", 1);
        faultIs("!" + ALL, 0);
    }

    @Holds(in = "Terms 1", says = PLACE)
    static void terms1_allThatASourceCanHaveHasNoFault() {
        faultIs(ALL, -6);
        wordsAre(ALL, 12);
    }

    @Holds(in = "Terms 1", says = "(a thirteenth WORD;")
    static void terms1_theTwelfthWordStands_theThirteenthDoesNot() {
        faultIs(TWELVE, -6);
        faultIs(TWELVE + ".", 12);
        faultIs(TWELVE + "x.", 13);
        faultIs(TWELVE + "xA", 14);
        faultIs("x" + TWELVE + "..", 13);
    }

    @Holds(in = "Terms 1", says = "what is there already;")
    static void terms1_whatIsThereAlready() {
        faultIs("AA", 1);
        faultIs("A.aA", 3);
        faultIs("AB.baB", 5);
        faultIs("x.yx", 3);
        faultIs("A.aa", 3);
    }

    @Holds(in = "Terms 1", says = NOT_OPENED)
    static void terms1_whatClosesThoughNothingIsOpen() {
        faultIs("e", 0);
        faultIs(".b", 1);
    }

    @Holds(in = "Terms 1", says = NOT_OPENED)
    static void terms1_whatClosesThoughAnotherOneWasOpenedLast() {
        faultIs("A.B.ab", 4);
        faultIs("AB.c", 3);
        faultIs("ABCDEd", 5);
    }

    @Holds(in = "Terms 1", says = NOT_OPENED)
    static void terms1_whatWasOpenedLastButIsClosedDoesNotCount() {
        faultIs("A.B.ba", -6);
        faultIs("A.B.bb", 5);
        faultIs("A.BC.cba", -6);
        faultIs("AB.bC.ba", 6);
    }

    @Holds(in = "Terms 1", says = YET)
    static void terms1_aPairMustBeClosedYet() {
        faultIs("A", 1);
        faultIs("A.", 2);
        faultIs("A.Bb", 4);
        faultIs("ABCDE", 5);
        faultIs("ABCDEedcb", 9);
        faultIs("ABCDEedcba", -6);
    }

    @Holds(in = "Terms 1", says = YET)
    static void terms1_allThatASourceCanHaveButOneThatCloses() {
        faultIs("xA.B.C.D.E.y.e.d.c.b.z..", 24);
    }

    @Holds(in = "Terms 1", says = YET)
    static void terms1_aSignThatCanNotStandComesAheadOfIt() {
        faultIs("A.!", 2);
        faultIs("!A", 0);
        faultIs("A.B.a", 4);
        faultIs("A...........................!!", 13);
    }

    @Holds(in = "Terms 1", says = "DEPTH of a PAIR: how many PAIRS it lies within;")
    static void terms1_depth0To4() {
        Counted x = Counted.told("C.E.A.D.B.bdaec", 1, "");
        Due.due("depths", depths(x), "2 4 0 3 1");
    }

    @Holds(in = "Terms 1", says = "DEPTH of a PAIR: how many PAIRS it lies within;")
    static void terms1_depth0OfThoseThatLieBesideEachOther() {
        Due.due("with WORDS", depths(Counted.told("A.aB.bC.cD.dE.e", 1, "")), "0 0 0 0 0");
        Due.due("in one GAP", depths(Counted.told("AaBbCcDdEe", 1, "")), "0 0 0 0 0");
        Due.due("within each other in one GAP", depths(Counted.told("ABCDEedcba", 1, "")), "0 1 2 3 4");
        Due.due("of the same WORDS", depths(Counted.told("EB.beC.cAaDd", 1, "")), "0 1 0 0 0");
    }

    private static String depths(Counted x) {
        return x.pair(0, 2) + " " + x.pair(1, 2) + " " + x.pair(2, 2) + " " + x.pair(3, 2) + " " + x.pair(4, 2);
    }

    @Holds(in = "Terms 1", says = "it HOLDS those that lie within it.")
    static void terms1_holdsFromNoneToFour() {
        Counted x = Counted.told("C.E.A.D.B.bdaec", 1, "");
        Due.due("the innermost one", x.pair(1, 3), 0);
        Due.due("the outermost one", x.pair(2, 3), 1 + 2 + 8 + 16);
        Due.due("one in the midst", x.pair(0, 3), 2 + 8);
    }

    @Holds(in = "Terms 1", says = "it HOLDS those that lie within it.")
    static void terms1_holdsNoneOfThoseBesideIt() {
        Counted x = Counted.told("AaB.CcbDEed", 1, "");
        Due.due("ahead of all", x.pair(0, 3), 0);
        Due.due("EMPTY ones at its end", x.pair(1, 3), 4);
        Due.due("in one GAP", x.pair(3, 3), 16);
    }

    @Holds(in = "Terms 1", says = "The TARGET is a row of 0 to 8 WORDS")
    static void terms1_targetOf0And8Words() {
        Counted x = new Counted();
        Due.due("-1", x.target(-1), -2);
        Due.due("8", x.target(8), 0);
        Due.due("9", x.target(9), -2);
        Due.due("0", x.target(0), 8);
        Due.due("WORDS", x.told(2), 0);
    }

    @Holds(in = "Terms 1", says = "(none at first).")
    static void terms1_targetHasNoWordAtFirst() {
        Due.due("WORDS", new Counted().told(2), 0);
        Due.due("how many it had", new Counted().target(3), 0);
    }

    @Holds(in = "Terms 1", says = "LINKS: of a WORD of the SOURCE and one of the TARGET.")
    static void terms1_linksOfTheFirstAndTheLastWords() {
        Counted x = Counted.told(TWELVE, 8, "00 07 b0 b7");
        Due.due("of WORD 0", x.told(10), 1 + 128);
        Due.due("of WORD 1", x.told(11), 0);
        Due.due("of WORD 11", x.told(21), 1 + 128);
        Due.due("LINKS", x.total(5), 4);
    }
}
