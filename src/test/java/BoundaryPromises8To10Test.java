/** The boundary cases of promises 8 to 10: pair, mark, total. */
public final class BoundaryPromises8To10Test {
    private static final String TWELVE = "............";
    private static final String NESTED = "ABCDE.edcba";
    private static final String NOT_THERE = "UNKNOWN: it is not there;";
    private static final String CROSSINGS = "how many SPANS of two PAIRS cross as they are WANTED (6),";
    private static final int LEAST = Integer.MIN_VALUE;
    private static final int GREATEST = Integer.MAX_VALUE;

    public static void main(String[] args) throws Exception {
        Due.runAll(BoundaryPromises8To10Test.class);
    }

    @Holds(in = "Promise 8", says = "A PAIR: GAP where it opens (what = 0), closes (1),")
    static void promise8_pair_what0And1_theFirstAndTheLastGap() {
        Counted x = Counted.told("A" + TWELVE + "aBb", 0, "");
        Due.due("opens at the first", x.pair(0, 0), 0);
        Due.due("closes at the last", x.pair(0, 1), 12);
        Due.due("opens at the last", x.pair(1, 0), 12);
        Due.due("closes where it opens", x.pair(1, 1), 12);
    }

    @Holds(in = "Promise 8", says = "DEPTH (2),")
    static void promise8_pair_what2_depth0And4() {
        Counted x = Counted.told(NESTED, 0, "");
        Due.due("the outermost one", x.pair(0, 2), 0);
        Due.due("the innermost one", x.pair(4, 2), 4);
    }

    @Holds(in = "Promise 8", says = "PAIRS that it HOLDS (3, bits),")
    static void promise8_pair_what3_holdsNoneAndAllOthers() {
        Counted x = Counted.told(NESTED, 0, "");
        Due.due("the outermost one", x.pair(0, 3), 2 + 4 + 8 + 16);
        Due.due("the innermost one", x.pair(4, 3), 0);
        Due.due("PAIR 4 round the others", Counted.told("EDCBA.abcde", 0, "").pair(4, 3), 1 + 2 + 4 + 8);
    }

    @Holds(in = "Promise 8", says = "WANTED from (4), to (5),")
    static void promise8_pair_what4And5_leastAndGreatest() {
        Counted x = Counted.told("A.aB.bCc", 8, "00 07 17");
        Due.due("the whole TARGET", x.pair(0, 4) + "-" + x.pair(0, 5), "0-8");
        Due.due("its last WORD", x.pair(1, 4) + "-" + x.pair(1, 5), "7-8");
        Due.due("its last GAP", x.pair(2, 4) + "-" + x.pair(2, 5), "8-8");
    }

    @Holds(in = "Promise 8", says = "PLACED from (6), to (7),")
    static void promise8_pair_what6And7_leastAndGreatest() {
        Counted x = Counted.told("ABb.a", 8, "07");
        Due.due("WANTED", x.wanted(0), "7-8");
        Due.due("PLACED", x.pair(0, 6) + "-" + x.pair(0, 7), "0-8");
    }

    @Holds(in = "Promise 8", says = "PLACED from (6), to (7),")
    static void promise8_pair_what6And7_followEachChange() {
        Counted x = Counted.told("A..a", 8, "");
        Due.due("no LINK", x.placed(0), "0-0");
        x.link(0, 3);
        Due.due("one LINK", x.placed(0), "3-4");
        x.link(1, 7);
        Due.due("two LINKS", x.placed(0), "3-8");
        x.link(0, 3);
        Due.due("the other one alone", x.placed(0), "7-8");
        x.target(2);
        Due.due("another TARGET", x.placed(0), "0-0");
    }

    @Holds(in = "Promise 8", says = "PLACED from (6), to (7),")
    static void promise8_pair_what6And7_nothingStaysOfPairsAndWordsThatWereThereBefore() {
        Counted x = Counted.told("A.aB.bC.cD.dE.e", 8, "00 03 11 14 22 25 33 36 44 47");
        Due.due("five that cross are moved", x.total(0) > 0, true);
        x.tell("C.cE.e", 3, "00 12");
        Due.due("two in a lesser TARGET", x.carried(2) + ", " + x.carried(4), "0-1 at 0, 2-3 at 0");
        x.tell("E.e", 8, "07");
        Due.due("one in a greater TARGET", x.carried(4), "7-8 at 0");
        Due.due("all", x.total(0), 0);
        x.tell("..", 8, "07");
        Due.due("none", x.total(0), 0);
    }

    @Holds(in = "Promise 8", says = "its COST (8),")
    static void promise8_pair_what8_noneAndSome() {
        Due.due("none", Counted.told("A.a", 8, "07").pair(0, 8), 0);
        Due.due("7", Counted.told("ABb.a", 8, "07").pair(0, 8), 7);
        Due.due("14", Counted.told("ABCDEe.dcba", 8, "07").pair(4, 8), 14);
    }

    @Holds(in = "Promise 8", says = "whether it is MISSING (9: 1, 0).")
    static void promise8_pair_what9() {
        Counted x = Counted.told("A.a", 1, "");
        Due.due("no LINK", x.pair(0, 9), 1);
        x.link(0, 0);
        Due.due("a LINK", x.pair(0, 9), 0);
        Due.due("no WORD", Counted.told(".Aa.", 1, "00 10").pair(0, 9), 1);
    }

    @Holds(in = "Promise 8", says = NOT_THERE)
    static void promise8_pair_unknown() {
        Counted x = Counted.told("A.aC.c", 1, "");
        for (int pair : new int[] {-1, 1, 3, 4, 5, 31, 32, 34, LEAST, GREATEST}) {
            for (int what = 0; what <= 9; what++) {
                Due.due("pair(" + pair + ", " + what + ")", x.pair(pair, what), -1);
            }
        }
        Due.due("the one that is there", x.pair(2, 0), 1);
    }

    @Holds(in = "Promise 8", says = NOT_THERE)
    static void promise8_pair_unknownWhenItWasThereBefore() {
        Counted x = Counted.told("A.a", 1, "");
        x.tell("B.b", 1, "");
        Due.due("pair(0, 0)", x.pair(0, 0), -1);
        Due.due("pair(1, 0)", x.pair(1, 0), 0);
    }

    @Holds(in = "Promise 8", says = "OUTSIDE.")
    static void promise8_pair_outside() {
        Counted x = Counted.told("A.aE.e", 1, "");
        for (int what : new int[] {-1, 10, 256, LEAST, GREATEST}) {
            Due.due("pair(0, " + what + ")", x.pair(0, what), -2);
            Due.due("pair(4, " + what + ")", x.pair(4, what), -2);
        }
    }

    @Holds(in = "Promise 9", says = "A MARK: its GAP (what = 0),")
    static void promise9_mark_what0_theFirstAndTheLastGap() {
        Counted x = Counted.told("x" + TWELVE + "z", 0, "");
        Due.due("the first", x.mark(0, 0), 0);
        Due.due("the last", x.mark(2, 0), 12);
    }

    @Holds(in = "Promise 9", says = "WANTED (1),")
    static void promise9_mark_what1_leastAndGreatest() {
        Counted x = Counted.told("x" + TWELVE + "z", 8, "07");
        Due.due("the least", x.mark(0, 1), 0);
        Due.due("the greatest", x.mark(2, 1), 8);
    }

    @Holds(in = "Promise 9", says = "PLACED (2).")
    static void promise9_mark_what2_leastAndGreatest() {
        Counted x = Counted.told("x" + TWELVE + "z", 8, "07");
        Due.due("the least", x.mark(0, 2), 0);
        Due.due("the greatest", x.mark(2, 2), 8);
        Due.due("moved by 7", Counted.told(".x.y", 8, "07 10").mark(0, 2), 1);
    }

    @Holds(in = "Promise 9", says = "PLACED (2).")
    static void promise9_mark_what2_followsEachChange() {
        Counted x = Counted.told(".x.y", 8, "04");
        Due.due("as WANTED", x.mark(0, 2) + " " + x.mark(1, 2), "5 5");
        x.link(1, 1);
        Due.due("the next one is WANTED ahead", x.mark(0, 2) + " " + x.mark(1, 2), "2 2");
        x.link(0, 4);
        Due.due("the first one has no LINK ahead", x.mark(0, 2) + " " + x.mark(1, 2), "0 2");
    }

    @Holds(in = "Promise 9", says = "PLACED (2).")
    static void promise9_mark_what2_nothingStaysOfMarksThatWereThereBefore() {
        Counted x = Counted.told(".z.y.x", 8, "07 13 20");
        Due.due("three are moved", x.total(1), 7);
        x.tell("y.", 8, "07");
        Due.due("one at GAP 0", x.mark(1, 2) + ", moved " + x.total(1), "0, moved 0");
        x.tell(".z.y.x", 8, "07 13 20");
        Due.due("three are moved again", x.total(1), 7);
        x.tell(".x.y", 8, "05 17");
        Due.due("two", x.mark(0, 2) + " " + x.mark(1, 2) + ", moved " + x.total(1), "6 8, moved 0");
        x.tell(".z", 8, "07");
        Due.due("one", x.mark(2, 2) + ", moved " + x.total(1), "8, moved 0");
        x.tell(".", 8, "07");
        Due.due("none", x.total(1), 0);
    }

    @Holds(in = "Promise 9", says = NOT_THERE)
    static void promise9_mark_unknown() {
        Counted x = Counted.told("x.z", 1, "");
        for (int mark : new int[] {-1, 1, 3, 32, 34, LEAST, GREATEST}) {
            for (int what = 0; what <= 2; what++) {
                Due.due("mark(" + mark + ", " + what + ")", x.mark(mark, what), -1);
            }
        }
        Due.due("the one that is there", x.mark(2, 0), 1);
    }

    @Holds(in = "Promise 9", says = NOT_THERE)
    static void promise9_mark_unknownWhenItWasThereBefore() {
        Counted x = Counted.told("x", 1, "");
        x.tell("y", 1, "");
        Due.due("mark(0, 0)", x.mark(0, 0), -1);
        Due.due("mark(1, 0)", x.mark(1, 0), 0);
    }

    @Holds(in = "Promise 9", says = "OUTSIDE.")
    static void promise9_mark_outside() {
        Counted x = Counted.told("x.z", 1, "");
        for (int what : new int[] {-1, 3, 256, LEAST, GREATEST}) {
            Due.due("mark(0, " + what + ")", x.mark(0, what), -2);
            Due.due("mark(2, " + what + ")", x.mark(2, what), -2);
        }
    }

    @Holds(in = "Promise 10", says = "COST of all PAIRS (what = 0),")
    static void promise10_total_what0() {
        Due.due("of none", Counted.told("..", 8, "00 17").total(0), 0);
        Due.due("of those that are not moved", Counted.told("A.aB.b", 8, "00 17").total(0), 0);
        Counted x = Counted.told("A.aB.bC.cD.d", 8, "00 01 11 12 24 25 35 36");
        Due.due("of two that are moved", x.carried(0) + ", " + x.carried(3), "0-1 at 1, 4-7 at 1");
        Due.due("added", x.total(0), 2);
    }

    @Holds(in = "Promise 10", says = "how far all MARKS are moved (1),")
    static void promise10_total_what1() {
        Due.due("none is there", Counted.told("..", 8, "07").total(1), 0);
        Due.due("none is moved", Counted.told(".x.y", 8, "00 17").total(1), 0);
        Due.due("7", Counted.told(".x.y", 8, "07 10").total(1), 7);
        Due.due("one by 4, one by 3", Counted.told(".z.y.x", 8, "07 13 20").total(1), 7);
    }

    @Holds(in = "Promise 10", says = "which PAIRS are there (2, bits),")
    static void promise10_total_what2() {
        Due.due("none", Counted.told("x.", 1, "").total(2), 0);
        Due.due("PAIR 0", Counted.told("Aa", 1, "").total(2), 1);
        Due.due("PAIR 4", Counted.told("Ee", 1, "").total(2), 16);
        Due.due("all", Counted.told(NESTED, 1, "").total(2), 31);
    }

    @Holds(in = "Promise 10", says = "MISSING (3, bits),")
    static void promise10_total_what3() {
        Due.due("none is there", Counted.told("..", 1, "").total(3), 0);
        Due.due("all five", Counted.told(NESTED, 1, "").total(3), 31);
        Due.due("none of five", Counted.told(NESTED, 1, "00").total(3), 0);
        Due.due("PAIRS 0 and 4", Counted.told("A.aB.bE.e", 1, "10").total(3), 17);
    }

    @Holds(in = "Promise 10", says = "MARKS (4, bits),")
    static void promise10_total_what4() {
        Due.due("none", Counted.told("A.a", 1, "").total(4), 0);
        Due.due("MARK 0", Counted.told("x", 1, "").total(4), 1);
        Due.due("MARK 2", Counted.told("z", 1, "").total(4), 4);
        Due.due("all", Counted.told("zyx", 1, "").total(4), 7);
    }

    @Holds(in = "Promise 10", says = "LINKS (5),")
    static void promise10_total_what5() {
        Counted x = Counted.told("..", 2, "");
        Due.due("none", x.total(5), 0);
        x.link("00 01 10 11");
        Due.due("all", x.total(5), 4);
        x.link(1, 1);
        Due.due("one has gone", x.total(5), 3);
    }

    @Holds(in = "Promise 10", says = CROSSINGS)
    static void promise10_total_what6_noneOfThoseBesideOrWithinEachOther() {
        Due.due("no PAIR", Counted.told("..", 2, "").total(6), 0);
        Due.due("one ends where the other one begins", Counted.told("A.aB.b", 2, "00 11").total(6), 0);
        Due.due("the same SPAN", Counted.told("A.aB.b", 2, "00 01 10 11").total(6), 0);
        Due.due("the same beginning", Counted.told("A.aB.b", 3, "00 01 10 12").total(6), 0);
        Due.due("the same end", Counted.told("A.aB.b", 3, "01 02 10 12").total(6), 0);
        Due.due("within", Counted.told("A.aB.b", 3, "01 10 12").total(6), 0);
        Due.due("MISSING in the midst of the other", Counted.told("A.a.Bb", 4, "00 03 11").total(6), 0);
        Due.due("MISSING outside of what HOLDS it", Counted.told(".AB.b.a", 5, "03 20").total(6), 0);
    }

    @Holds(in = "Promise 10", says = CROSSINGS)
    static void promise10_total_what6_byOneWord() {
        Due.due("the lesser number ahead", Counted.told("A.aB.b", 3, "00 01 11 12").total(6), 1);
        Due.due("the greater number ahead", Counted.told("B.bA.a", 3, "00 01 11 12").total(6), 1);
    }

    @Holds(in = "Promise 10", says = CROSSINGS)
    static void promise10_total_what6_asManyAsThereCanBe() {
        Counted x = Counted.told("A.aB.bC.cD.dE.e", 8, "00 03 11 14 22 25 33 36 44 47");
        Due.due("all but the first and the last", x.total(6), 9);
        Due.due("PLACED they cross no more", x.total(0) > 0, true);
    }

    @Holds(in = "Promise 10", says = "pairs of PAIRS of which one HOLDS the other (7).")
    static void promise10_total_what7() {
        Due.due("no PAIR", Counted.told("..", 1, "").total(7), 0);
        Due.due("one PAIR", Counted.told("A.a", 1, "").total(7), 0);
        Due.due("five beside each other", Counted.told("AaBbCcDdEe", 1, "").total(7), 0);
        Due.due("two", Counted.told("AB.ba", 1, "").total(7), 1);
        Due.due("three within each other", Counted.told("EC.Aace", 1, "").total(7), 3);
        Due.due("five within each other", Counted.told(NESTED, 1, "").total(7), 10);
        Due.due("one round four", Counted.told("AB.bC.cD.dE.ea", 1, "").total(7), 4);
    }

    @Holds(in = "Promise 10", says = "OUTSIDE.")
    static void promise10_total_outside() {
        for (Counted x : new Counted[] {new Counted(), Counted.told(NESTED, 1, "00")}) {
            for (int what : new int[] {-1, 8, 256, LEAST, GREATEST}) {
                Due.due("total(" + what + ")", x.total(what), -2);
            }
        }
    }
}
