/** The boundary cases of promises 1 to 7: a new object, say, wipe, fault, load, target, link. */
public final class BoundaryPromises1To7Test {
    private static final String TWELVE = "............";
    private static final String ALL = "xA.B.C.D.E.y.e.d.c.b.az..";
    private static final String LOADED = "The SOURCE is that of the PAD";
    private static final String LINK = "A LINK of two WORDS comes, or goes, if it is there: whether it is there then (1, 0).";
    private static final String NOT_THERE = "UNKNOWN: of the SOURCE, of the TARGET.";
    private static final int LEAST = Integer.MIN_VALUE;
    private static final int GREATEST = Integer.MAX_VALUE;

    public static void main(String[] args) throws Exception {
        Due.runAll(BoundaryPromises1To7Test.class);
    }

    private static Counted padOf(String signs) {
        Counted x = new Counted();
        x.type(signs);
        return x;
    }

    @Holds(in = "Promise 1", says = "No WORD at all.")
    static void promise1_new_noWordNoSignNoLink() {
        Counted x = new Counted();
        Due.due("signs on the PAD", x.told(0), 0);
        Due.due("WORDS of the SOURCE", x.told(1), 0);
        Due.due("WORDS of the TARGET", x.told(2), 0);
        Due.due("LINKS of WORD 0", x.told(10), -2);
        Due.due("link(0, 0)", x.link(0, 0), -1);
        Due.due("wipe()", x.wipe(), 0);
        Due.due("fault()", x.fault(), -6);
    }

    @Holds(in = "Promise 1", says = "No WORD at all.")
    static void promise1_new_noPairNoMarkNothingWritten() {
        Counted x = new Counted();
        for (int p = 0; p < 5; p++) {
            Due.due("PAIR " + p, x.pair(p, 0), -1);
        }
        for (int m = 0; m < 3; m++) {
            Due.due("MARK " + m, x.mark(m, 0), -1);
        }
        for (int what = 0; what <= 7; what++) {
            Due.due("total(" + what + ")", x.total(what), 0);
        }
        Due.due("sign(-1)", x.sign(-1), 0);
        Due.due("sign(0)", x.sign(0), -6);
    }

    @Holds(in = "Promise 1", says = "No WORD at all.")
    static void promise1_new_noImage() {
        Due.due("restore(0)", new Counted().restore(0), -3);
        Due.due("restore(1)", new Counted().restore(1), -3);
    }

    @Holds(in = "Promise 1", says = "No WORD at all.")
    static void promise1_new_objectsHaveNothingInCommon() {
        Counted.rich("A.a", true);
        Due.due("another new object", new Counted().seenThrough(), new Counted().seenThrough());
        Due.due("WORDS", new Counted().told(1), 0);
        Due.due("an IMAGE", new Counted().restore(0), -3);
    }

    @Holds(in = "Promise 2", says = "A sign more: how many.")
    static void promise2_say_theFirstAndTheThirtieth() {
        Counted x = new Counted();
        for (int i = 1; i <= 30; i++) {
            Due.due("sign " + i, x.say('.'), i);
        }
        Due.due("signs", x.told(0), 30);
    }

    @Holds(in = "Promise 2", says = "A sign more: how many.")
    static void promise2_say_allCodesEvenThoseThatCanNotStand() {
        for (int from = 33; from <= 126; from += 30) {
            Counted x = new Counted();
            for (int code = from; code < from + 30 && code <= 126; code++) {
                Due.due("say(" + code + ")", x.say(code), code - from + 1);
            }
        }
    }

    @Holds(in = "Promise 2", says = "A sign more: how many.")
    static void promise2_say_againWhenTheFullPadIsWiped() {
        Counted x = padOf(ALL + "!!!!!");
        x.wipe();
        Due.due("say", x.say('.'), 1);
    }

    @Holds(in = "Promise 2", says = "OUTSIDE;")
    static void promise2_say_outside() {
        Counted x = new Counted();
        for (int code : new int[] {32, 127, 0, -1, 128, 255, 256, '.' + 256, '.' + 65536, '.' - 256, LEAST, GREATEST}) {
            Due.due("say(" + code + ")", x.say(code), -2);
        }
        Due.due("signs", x.told(0), 0);
    }

    @Holds(in = "Promise 2", says = "FULL.")
    static void promise2_say_full() {
        Counted x = padOf(ALL + "....");
        Due.due("the 30th", x.say('.'), 30);
        Due.due("the 31st", x.say('.'), -4);
        Due.due("once more", x.say('.'), -4);
        Due.due("signs", x.told(0), 30);
    }

    @Holds(in = "Promise 3", says = "Signs go: how many there were.")
    static void promise3_wipe_anEmptyPad() {
        Due.due("wipe", new Counted().wipe(), 0);
    }

    @Holds(in = "Promise 3", says = "Signs go: how many there were.")
    static void promise3_wipe_oneSign() {
        Counted x = padOf("!");
        Due.due("wipe", x.wipe(), 1);
        Due.due("signs", x.told(0), 0);
        Due.due("fault", x.fault(), -6);
        Due.due("wipe again", x.wipe(), 0);
    }

    @Holds(in = "Promise 3", says = "Signs go: how many there were.")
    static void promise3_wipe_aFullPad() {
        Counted x = padOf(ALL + "!!!!!");
        Due.due("wipe", x.wipe(), 30);
        Due.due("signs", x.told(0), 0);
        x.type("..");
        Due.due("what is told then", x.load(), 2);
    }

    @Holds(in = "Promise 3", says = "Signs go: how many there were.")
    static void promise3_wipe_onlySignsGo() {
        Counted x = Counted.rich("A.a", true);
        x.wipe();
        Due.due("all else", x.seenThrough(), Counted.rich("", true).seenThrough());
    }

    @Holds(in = "Promise 4", says = "THE FAULT;")
    static void promise4_fault_theLeastAndTheGreatestPlace() {
        Due.due("place 0", padOf("a").fault(), 0);
        Due.due("place 0 of 30", padOf("!" + ALL + "....").fault(), 0);
        Due.due("place 25: all places ahead stand", padOf(ALL + "!").fault(), 25);
        Due.due("place 25 of 30", padOf(ALL + ".....").fault(), 25);
    }

    @Holds(in = "Promise 4", says = "THE FAULT;")
    static void promise4_fault_theNumberOfSigns() {
        Due.due("of 1", padOf("A").fault(), 1);
        Due.due("of 24", padOf("xA.B.C.D.E.y.e.d.c.b.z..").fault(), 24);
    }

    @Holds(in = "Promise 4", says = "THE FAULT;")
    static void promise4_fault_changesNothing() {
        Counted x = Counted.rich("A.B", true);
        Due.due("fault", x.fault(), 3);
        Due.due("fault again", x.fault(), 3);
        Due.due("what is there", x.seenThrough(), Counted.rich("A.B", true).seenThrough());
    }

    @Holds(in = "Promise 4", says = "THE FAULT;")
    static void promise4_fault_isOfThePadNotOfTheSource() {
        Counted x = Counted.told("A.a" + TWELVE.substring(1), 0, "");
        x.type("A.a");
        Due.due("fault", x.fault(), -6);
    }

    @Holds(in = "Promise 4", says = "NONE.")
    static void promise4_fault_none() {
        Due.due("NONE", TagCarrier.NONE, -6);
        Due.due("an empty PAD", padOf("").fault(), -6);
        Due.due("one WORD", padOf(".").fault(), -6);
        Due.due("all that there can be", padOf(ALL).fault(), -6);
    }

    @Holds(in = "Promise 4", says = "NONE.")
    static void promise4_fault_noneWhenWhatWasOpenIsClosed() {
        Counted x = padOf("A.");
        Due.due("open", x.fault(), 2);
        x.say('a');
        Due.due("closed", x.fault(), -6);
    }

    @Holds(in = "Promise 5", says = LOADED)
    static void promise5_load_anEmptyPadIsASourceOfNothing() {
        Counted x = Counted.told(ALL, 8, "00");
        Due.due("load", x.load(), 0);
        Due.due("WORDS", x.told(1), 0);
        Due.due("PAIRS", x.total(2), 0);
        Due.due("MARKS", x.total(4), 0);
        Due.due("LINKS", x.total(5), 0);
        Due.due("written", x.written(), "........");
    }

    @Holds(in = "Promise 5", says = LOADED)
    static void promise5_load_allThatThereCanBe() {
        Counted x = padOf(ALL);
        Due.due("load", x.load(), 12);
        Due.due("PAIRS", x.total(2), 31);
        Due.due("MARKS", x.total(4), 7);
        Due.due("GAPS of PAIR 4", x.pair(4, 0) + "-" + x.pair(4, 1), "4-6");
    }

    @Holds(in = "Promise 5", says = LOADED)
    static void promise5_load_nothingOfTheSourceBeforeStays() {
        Counted x = Counted.told(ALL, 4, "");
        x.tell("C.c.", 4, "");
        Due.due("PAIRS", x.total(2), 4);
        Due.due("what it HOLDS", x.pair(2, 3), 0);
        Due.due("its DEPTH", x.pair(2, 2), 0);
        Due.due("MARKS", x.total(4), 0);
        Due.due("as told to a new object", x.seen(), Counted.told("C.c.", 4, "").seen());
    }

    @Holds(in = "Promise 5", says = "(which is empty then),")
    static void promise5_load_thePadIsEmptyThen() {
        Counted x = padOf("A.a");
        x.load();
        Due.due("signs", x.told(0), 0);
        Due.due("fault", x.fault(), -6);
        Due.due("say", x.say('.'), 1);
    }

    @Holds(in = "Promise 5", says = "LINKS are gone:")
    static void promise5_load_linksAreGoneThoughTheSourceIsTheSame() {
        Counted x = Counted.told("A.a.", 2, "00 11");
        x.type("A.a.");
        Due.due("load", x.load(), 2);
        Due.due("LINKS", x.total(5), 0);
        Due.due("of both WORDS", x.told(10) + " " + x.told(11), "0 0");
        Due.due("WORDS of the TARGET stay", x.told(2), 2);
        Due.due("PAIR 0 is MISSING", x.pair(0, 9), 1);
    }

    @Holds(in = "Promise 5", says = "LINKS are gone:")
    static void promise5_load_imagesStay() {
        Counted x = Counted.rich("A.a", true);
        x.load();
        Due.due("restore(0)", x.restore(0), 1);
        Due.due("LINKS", x.total(5), 3);
        Due.due("restore(1)", x.restore(1), 1);
        Due.due("LINKS", x.total(5), 2);
    }

    @Holds(in = "Promise 5", says = "WORDS.")
    static void promise5_load_answersTheWordsNotTheSigns() {
        Due.due("of none", padOf("AaxBbyz").load(), 0);
        Due.due("of one", padOf("A.ax").load(), 1);
        Due.due("of twelve", padOf(TWELVE).load(), 12);
    }

    @Holds(in = "Promise 5", says = "NO: there is a FAULT.")
    static void promise5_load_no() {
        Due.due("at place 0", padOf("a").load(), -5);
        Due.due("at the last place", padOf(TWELVE + ".").load(), -5);
        Due.due("a PAIR must be closed yet", padOf("A.").load(), -5);
        Due.due("a full PAD", padOf(ALL + ".....").load(), -5);
    }

    @Holds(in = "Promise 5", says = "NO: there is a FAULT.")
    static void promise5_load_noThenMended() {
        Counted x = padOf("A.");
        Due.due("load", x.load(), -5);
        Due.due("signs stay", x.told(0), 2);
        Due.due("a sign more", x.say('a'), 3);
        Due.due("load", x.load(), 1);
    }

    @Holds(in = "Promise 6", says = "The TARGET has so many WORDS,")
    static void promise6_target_fromNoneToEight() {
        Counted x = new Counted();
        for (int words = 0; words <= 8; words++) {
            x.target(words);
            Due.due("WORDS", x.told(2), words);
            Due.due("written", x.sign(-1), words);
        }
        x.target(0);
        Due.due("none again", x.sign(-1), 0);
    }

    @Holds(in = "Promise 6", says = "LINKS are gone:")
    static void promise6_target_linksAreGone() {
        for (int words : new int[] {0, 2, 3, 4, 8}) {
            Counted x = Counted.told("A.a.", 3, "00 12");
            x.target(words);
            Due.due("LINKS, from 3 WORDS to " + words, x.total(5), 0);
            Due.due("of both WORDS", x.told(10) + " " + x.told(11), "0 0");
            Due.due("PAIR 0 is MISSING", x.pair(0, 9), 1);
        }
    }

    @Holds(in = "Promise 6", says = "LINKS are gone:")
    static void promise6_target_theSourceThePadAndImagesStay() {
        Counted x = Counted.told("A.a.x", 3, "");
        x.image(1);
        x.type("B.b");
        x.target(5);
        Due.due("WORDS", x.told(1), 2);
        Due.due("PAIRS", x.total(2), 1);
        Due.due("MARKS", x.total(4), 1);
        Due.due("signs", x.told(0), 3);
        x.restore(1);
        Due.due("WORDS of the TARGET in the IMAGE", x.told(2), 3);
    }

    @Holds(in = "Promise 6", says = "how many it had.")
    static void promise6_target_howManyItHad() {
        Counted x = new Counted();
        Due.due("none at first", x.target(8), 0);
        Due.due("eight", x.target(8), 8);
        Due.due("eight again", x.target(0), 8);
        Due.due("none", x.target(1), 0);
        Due.due("one", x.target(0), 1);
    }

    @Holds(in = "Promise 6", says = "OUTSIDE: 0 to 8.")
    static void promise6_target_outside() {
        Counted x = Counted.told("A.a", 5, "04");
        for (int words : new int[] {-1, 9, 8 + 256, LEAST, GREATEST}) {
            Due.due("target(" + words + ")", x.target(words), -2);
        }
        Due.due("WORDS", x.told(2), 5);
        Due.due("LINKS", x.total(5), 1);
    }

    @Holds(in = "Promise 7", says = LINK)
    static void promise7_link_comesGoesAndComesAgain() {
        Counted x = Counted.told(".", 1, "");
        Due.due("comes", x.link(0, 0), 1);
        Due.due("is there", x.told(10), 1);
        Due.due("goes", x.link(0, 0), 0);
        Due.due("is not there", x.told(10), 0);
        Due.due("comes again", x.link(0, 0), 1);
    }

    @Holds(in = "Promise 7", says = LINK)
    static void promise7_link_theOuterWordsOfBoth() {
        Counted x = Counted.told(TWELVE, 8, "");
        int[][] outer = {{0, 0}, {0, 7}, {11, 0}, {11, 7}};
        for (int[] link : outer) {
            Due.due("link(" + link[0] + ", " + link[1] + ")", x.link(link[0], link[1]), 1);
        }
        for (int[] link : outer) {
            Due.due("link(" + link[0] + ", " + link[1] + ") again", x.link(link[0], link[1]), 0);
        }
    }

    @Holds(in = "Promise 7", says = LINK)
    static void promise7_link_allOfAllWords() {
        Counted x = Counted.told(TWELVE, 8, "");
        for (int word = 0; word < 12; word++) {
            for (int other = 0; other < 8; other++) {
                Due.due("link(" + word + ", " + other + ")", x.link(word, other), 1);
            }
        }
        Due.due("LINKS", x.total(5), 96);
        Due.due("one goes", x.link(5, 5), 0);
        Due.due("LINKS", x.total(5), 95);
        Due.due("the others of that WORD stay", x.told(15), 255 - 32);
    }

    @Holds(in = "Promise 7", says = NOT_THERE)
    static void promise7_link_noSuchWordOfTheSource() {
        Counted x = Counted.told("...", 8, "");
        for (int word : new int[] {-1, 3, 11, 12, 32, LEAST, GREATEST}) {
            Due.due("link(" + word + ", 0)", x.link(word, 0), -1);
        }
        Due.due("link(12, 0) of twelve", Counted.told(TWELVE, 8, "").link(12, 0), -1);
        Due.due("LINKS", x.total(5), 0);
    }

    @Holds(in = "Promise 7", says = NOT_THERE)
    static void promise7_link_noSuchWordOfTheTarget() {
        Counted x = Counted.told(TWELVE, 3, "");
        for (int other : new int[] {-1, 3, 7, 8, 32, 33, LEAST, GREATEST}) {
            Due.due("link(0, " + other + ")", x.link(0, other), -1);
        }
        Due.due("link(0, 8) of eight", Counted.told(TWELVE, 8, "").link(0, 8), -1);
        Due.due("LINKS", x.total(5), 0);
    }

    @Holds(in = "Promise 7", says = NOT_THERE)
    static void promise7_link_ofAnEmptySourceOrTarget() {
        Due.due("no WORD of the SOURCE", Counted.told("", 8, "").link(0, 0), -1);
        Due.due("no WORD of the TARGET", Counted.told("...", 0, "").link(0, 0), -1);
        Due.due("neither", Counted.told("", 0, "").link(0, 0), -1);
        Due.due("both out of range", Counted.told("..", 2, "").link(2, 2), -1);
    }
}
