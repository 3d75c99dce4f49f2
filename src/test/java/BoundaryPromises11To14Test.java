/** The boundary cases of promises 11 to 14: sign, image, restore, told. */
public final class BoundaryPromises11To14Test {
    private static final String TWELVE = "............";
    private static final String ALL = "xA.aB.bC.cyD.dE.ez...";
    private static final String ALL_LINKS = "00 11 22 33 47";
    private static final String ALL_WRITTEN = "xA.aB.bC.cyD.d...E.ez";
    private static final String KEPT = "The SOURCE, the TARGET, LINKS are kept in an IMAGE (0, 1): 1.";
    private static final String AS_THEY_WERE = "They are as they were when they were kept: 1.";
    private static final String LINKED_TO = "10 and a WORD of the SOURCE: which it is linked to (bits).";
    private static final int LEAST = Integer.MIN_VALUE;
    private static final int GREATEST = Integer.MAX_VALUE;

    public static void main(String[] args) throws Exception {
        Due.runAll(BoundaryPromises11To14Test.class);
    }

    @Holds(in = "Promise 11", says = "How many signs are WRITTEN (i = -1),")
    static void promise11_sign_howManyFromNoneTo21() {
        Due.due("none", new Counted().sign(-1), 0);
        Due.due("one WORD", Counted.told("", 1, "").sign(-1), 1);
        Due.due("one MARK", Counted.told("x", 0, "").sign(-1), 1);
        Due.due("all", Counted.told(ALL, 8, ALL_LINKS).sign(-1), 21);
        Due.due("all, without LINKS", Counted.told(ALL, 8, "").sign(-1), 21);
        Due.due("all, no WORD", Counted.told(ALL, 0, "").sign(-1), 13);
    }

    @Holds(in = "Promise 11", says = "the i-th;")
    static void promise11_sign_theFirstAndTheLast() {
        Counted x = Counted.told(ALL, 8, ALL_LINKS);
        Due.due("0", x.sign(0), (int) 'x');
        Due.due("20", x.sign(20), (int) 'z');
        for (int i = 0; i < 21; i++) {
            Due.due("sign(" + i + ")", x.sign(i), (int) ALL_WRITTEN.charAt(i));
        }
        Due.due("of one", Counted.told("", 1, "").sign(0), (int) '.');
    }

    @Holds(in = "Promise 11", says = "the i-th;")
    static void promise11_sign_followsEachChange() {
        Counted x = Counted.told("A.a", 2, "");
        Due.due("no LINK", x.written(), "Aa..");
        x.link(0, 1);
        Due.due("a LINK", x.written(), ".A.a");
        x.target(1);
        Due.due("another TARGET", x.written(), "Aa.");
        x.type("x.");
        Due.due("what is said is not loaded", x.written(), "Aa.");
        x.load();
        Due.due("another SOURCE", x.written(), "x.");
    }

    @Holds(in = "Promise 11", says = "NONE.")
    static void promise11_sign_none() {
        Counted x = Counted.told(ALL, 8, ALL_LINKS);
        for (int i : new int[] {21, 22, 256, -2, -3, LEAST, GREATEST}) {
            Due.due("sign(" + i + ")", x.sign(i), -6);
        }
        Due.due("the first of none", new Counted().sign(0), -6);
        Due.due("the second of one", Counted.told("", 1, "").sign(1), -6);
    }

    @Holds(in = "Promise 11", says = "NONE.")
    static void promise11_sign_noneWhereThereWasOneBefore() {
        Counted x = Counted.told("A.a", 2, "");
        Due.due("sign(3)", x.sign(3), (int) '.');
        x.target(1);
        Due.due("sign(3)", x.sign(3), -6);
    }

    @Holds(in = "Promise 12", says = KEPT)
    static void promise12_image_ofNothing() {
        Counted x = new Counted();
        Due.due("image(0)", x.image(0), 1);
        x.tell("A.a", 3, "02");
        Due.due("restore(0)", x.restore(0), 1);
        Due.due("nothing", x.seen(), new Counted().seen());
    }

    @Holds(in = "Promise 12", says = KEPT)
    static void promise12_image_ofAllThereCanBe() {
        Counted x = Counted.told(ALL, 8, ALL_LINKS);
        String before = x.seen();
        Due.due("image(1)", x.image(1), 1);
        x.tell("", 0, "");
        Due.due("restore(1)", x.restore(1), 1);
        Due.due("all", x.seen(), before);
    }

    @Holds(in = "Promise 12", says = KEPT)
    static void promise12_image_bothAreKeptBesideEachOther() {
        Counted x = Counted.told("A.a", 1, "00");
        x.image(0);
        x.tell("B..b", 2, "01 10");
        x.image(1);
        x.tell("", 0, "");
        x.restore(0);
        Due.due("IMAGE 0", x.written(), "A.a");
        x.restore(1);
        Due.due("IMAGE 1", x.written(), "B..b");
        x.restore(0);
        Due.due("IMAGE 0 again", x.written(), "A.a");
    }

    @Holds(in = "Promise 12", says = KEPT)
    static void promise12_image_keptAgainIsTheLaterOne() {
        Counted x = Counted.told("A.a", 1, "00");
        Due.due("image(0)", x.image(0), 1);
        x.tell("B.b.", 2, "01");
        Due.due("image(0) again", x.image(0), 1);
        x.tell("", 0, "");
        x.restore(0);
        Due.due("the later one", x.written(), ".B.b");
    }

    @Holds(in = "Promise 12", says = KEPT)
    static void promise12_image_isNotChangedByLaterCalls() {
        Counted x = Counted.told("A.a.", 3, "00 12");
        String before = x.seen();
        x.image(0);
        x.link(0, 1);
        x.link(1, 2);
        x.restore(0);
        Due.due("as it was kept", x.seen(), before);
        x.target(8);
        x.restore(0);
        Due.due("as it was kept", x.seen(), before);
    }

    @Holds(in = "Promise 12", says = KEPT)
    static void promise12_image_changesNothingElse() {
        Counted x = Counted.rich("A.a", true);
        String before = x.seen();
        x.image(1);
        Due.due("what is there", x.seen(), before);
    }

    @Holds(in = "Promise 12", says = "OUTSIDE.")
    static void promise12_image_outside() {
        Counted x = Counted.told("A.a", 1, "00");
        for (int n : new int[] {-1, 2, 256, LEAST, GREATEST}) {
            Due.due("image(" + n + ")", x.image(n), -2);
        }
        Due.due("nothing is kept", x.restore(0) + " " + x.restore(1), "-3 -3");
    }

    @Holds(in = "Promise 13", says = AS_THEY_WERE)
    static void promise13_restore_theSourceTheTargetAndLinks() {
        Counted x = Counted.told("A.xB.b.a", 4, "00 12 23");
        String before = x.seen();
        x.image(0);
        x.tell("C.c", 2, "01");
        Due.due("restore(0)", x.restore(0), 1);
        Due.due("all", x.seen(), before);
        Due.due("once more", x.restore(0), 1);
        Due.due("all", x.seen(), before);
    }

    @Holds(in = "Promise 13", says = AS_THEY_WERE)
    static void promise13_restore_linksAreRestoredToo() {
        Counted x = Counted.told("..", 2, "01");
        x.image(1);
        x.target(2);
        x.restore(1);
        Due.due("LINKS", x.told(10) + " " + x.told(11), "2 0");
        Due.due("a LINK that is there goes", x.link(0, 1), 0);
    }

    @Holds(in = "Promise 13", says = AS_THEY_WERE)
    static void promise13_restore_linksThatCameLaterAreGone() {
        Counted x = Counted.told(TWELVE, 8, "");
        x.image(0);
        x.link("00 b7");
        x.restore(0);
        Due.due("LINKS", x.total(5), 0);
    }

    @Holds(in = "Promise 13", says = AS_THEY_WERE)
    static void promise13_restore_thePadIsNotKept() {
        Counted x = Counted.told("A.a", 1, "");
        x.type("B.");
        x.image(0);
        x.say('b');
        Due.due("restore(0)", x.restore(0), 1);
        Due.due("signs", x.told(0), 3);
        Due.due("load", x.load(), 1);
        Due.due("PAIRS", x.total(2), 2);
    }

    @Holds(in = "Promise 13", says = "OUTSIDE;")
    static void promise13_restore_outside() {
        Counted x = Counted.rich("", true);
        for (int n : new int[] {-1, 2, 256, LEAST, GREATEST}) {
            Due.due("restore(" + n + ")", x.restore(n), -2);
        }
    }

    @Holds(in = "Promise 13", says = "STATE: they were not.")
    static void promise13_restore_state() {
        Counted x = Counted.told("A.a", 1, "00");
        Due.due("restore(0)", x.restore(0), -3);
        Due.due("restore(1)", x.restore(1), -3);
        x.image(1);
        Due.due("restore(0), IMAGE 1 is kept", x.restore(0), -3);
        Due.due("restore(1)", x.restore(1), 1);
        x.image(0);
        Due.due("restore(0)", x.restore(0), 1);
    }

    @Holds(in = "Promise 13", says = "STATE: they were not.")
    static void promise13_restore_stateThoughAnImageWasRefused() {
        Counted x = new Counted();
        x.image(2);
        x.image(-1);
        Due.due("restore(0)", x.restore(0), -3);
        Due.due("restore(1)", x.restore(1), -3);
    }

    @Holds(in = "Promise 14", says = "0 signs,")
    static void promise14_told_what0_anEmptyAndAFullPad() {
        Counted x = new Counted();
        Due.due("none", x.told(0), 0);
        x.say('!');
        Due.due("one", x.told(0), 1);
        x.type(".............................");
        Due.due("thirty", x.told(0), 30);
        x.say('.');
        Due.due("not one more", x.told(0), 30);
        x.wipe();
        Due.due("none", x.told(0), 0);
    }

    @Holds(in = "Promise 14", says = "1, 2 WORDS of the SOURCE, the TARGET;")
    static void promise14_told_what1And2_noneAndAll() {
        Counted x = Counted.told("", 0, "");
        Due.due("none", x.told(1) + " " + x.told(2), "0 0");
        x = Counted.told(TWELVE, 8, "");
        Due.due("all", x.told(1) + " " + x.told(2), "12 8");
        x.type("..");
        Due.due("what is said is not loaded", x.told(1), 12);
    }

    @Holds(in = "Promise 14", says = LINKED_TO)
    static void promise14_told_what10To21_theFirstAndTheLastWord() {
        Counted x = Counted.told(TWELVE, 8, "00 07 b0 b1 b2 b3 b4 b5 b6 b7");
        Due.due("WORD 0", x.told(10), 1 + 128);
        Due.due("WORD 1", x.told(11), 0);
        Due.due("WORD 10", x.told(20), 0);
        Due.due("WORD 11, all", x.told(21), 255);
    }

    @Holds(in = "Promise 14", says = "OUTSIDE.")
    static void promise14_told_outside() {
        Counted x = Counted.told(TWELVE, 8, "");
        for (int what : new int[] {-1, 3, 4, 9, 22, 23, 256, LEAST, GREATEST}) {
            Due.due("told(" + what + ")", x.told(what), -2);
        }
    }

    @Holds(in = "Promise 14", says = "OUTSIDE.")
    static void promise14_told_outsideWhereTheSourceHasNoSuchWord() {
        Due.due("told(10) of none", new Counted().told(10), -2);
        Counted x = Counted.told("..", 8, "");
        Due.due("told(11) of two", x.told(11), 0);
        Due.due("told(12) of two", x.told(12), -2);
        Due.due("told(21) of two", x.told(21), -2);
        x.tell(".", 8, "");
        Due.due("told(11) of one, where there was one before", x.told(11), -2);
    }
}
