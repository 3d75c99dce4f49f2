/** Each promise of the document: ordinary inputs, its edges, wrong inputs. */
public final class PromiseTest {
    private static int wrong = 0;

    private static void due(String what, Object got, Object want) {
        if (!got.equals(want)) {
            wrong++;
            System.out.println("PromiseTest: " + what + " answered " + got + ", due is " + want);
        }
    }

    public static void main(String[] args) {
        newObject();
        say();
        wipe();
        fault();
        load();
        target();
        link();
        pairInSource();
        pairWanted();
        pairPlaced();
        pairTies();
        mark();
        total();
        sign();
        image();
        restore();
        told();
        System.out.println(wrong == 0 ? "PromiseTest: all as due" : "PromiseTest: " + wrong + " wrong");
        if (wrong != 0) {
            System.exit(1);
        }
    }

    private static void type(TagCarrier x, String signs) {
        x.wipe();
        for (char c : signs.toCharArray()) {
            x.say(c);
        }
    }

    /** A carrier with a source, a target and links, told as "01 13": of WORD 0 and 1, of 1 and 3. */
    private static TagCarrier told(String source, int words, String links) {
        TagCarrier x = new TagCarrier();
        type(x, source);
        due("load of " + source, x.load() >= 0, true);
        x.target(words);
        for (String l : links.trim().split(" +")) {
            if (!l.isEmpty()) {
                due("link " + l + " in " + source, x.link(Character.digit(l.charAt(0), 16), l.charAt(1) - '0'), 1);
            }
        }
        return x;
    }

    private static String written(TagCarrier x) {
        StringBuilder b = new StringBuilder();
        for (int i = 0; i < x.sign(-1); i++) {
            b.append((char) x.sign(i));
        }
        return b.toString();
    }

    private static String wanted(TagCarrier x, int pair) {
        return x.pair(pair, 4) + "-" + x.pair(pair, 5);
    }

    private static String placed(TagCarrier x, int pair) {
        return x.pair(pair, 6) + "-" + x.pair(pair, 7) + " " + x.pair(pair, 8);
    }

    private static int faultOf(String signs) {
        TagCarrier x = new TagCarrier();
        type(x, signs);
        return x.fault();
    }

    private static void newObject() {
        TagCarrier x = new TagCarrier();
        for (int what = 0; what <= 2; what++) {
            due("told of a new object", x.told(what), 0);
        }
        for (int what = 0; what <= 7; what++) {
            due("total of a new object", x.total(what), 0);
        }
        due("sign of a new object", x.sign(-1), 0);
        due("restore of a new object", x.restore(1), -3);
        due("target of a new object", x.target(0), 0);
        due("fault of a new object", x.fault(), -6);
    }

    private static void say() {
        TagCarrier x = new TagCarrier();
        for (int sign : new int[] {32, 127, 0, -1, Integer.MIN_VALUE, Integer.MAX_VALUE, 33 + 256}) {
            due("say outside", x.say(sign), -2);
        }
        due("signs after refused ones", x.told(0), 0);
        due("say 33", x.say(33), 1);
        due("say 126", x.say(126), 2);
        for (int i = 3; i <= 30; i++) {
            due("say", x.say('.'), i);
        }
        due("the 31st sign", x.say('.'), -4);
        due("outside comes ahead of full", x.say(32), -2);
        due("signs of a full pad", x.told(0), 30);
    }

    private static void wipe() {
        TagCarrier x = told("A.a", 1, "00");
        due("wipe of an empty pad", x.wipe(), 0);
        x.say('.');
        x.say('!');
        due("wipe", x.wipe(), 2);
        due("signs after wipe", x.told(0), 0);
        due("wipe again", x.wipe(), 0);
        due("the source stays", written(x), "A.a");
    }

    private static void fault() {
        due("empty", faultOf(""), -6);
        due("all there is", faultOf("xA.B.yb.aC.cD.dE.ez......"), -6);
        due("a thirteenth word", faultOf(".............x"), 12);
        due("twelve words", faultOf("............"), -6);
        due("no such sign", faultOf("..!.."), 2);
        due("F", faultOf("F"), 0);
        due("f", faultOf("Af"), 1);
        due("w", faultOf("w"), 0);
        due("{", faultOf(".{"), 1);
        due("opened twice", faultOf("A.A"), 2);
        due("opened again after it was closed", faultOf("A.aA.a"), 3);
        due("closed, never opened", faultOf(".b"), 1);
        due("closed twice", faultOf("A.aa"), 3);
        due("closed, not the last one", faultOf("A.B.ab"), 4);
        due("a mark twice", faultOf("x.yx"), 3);
        due("to be closed", faultOf("A.B.b"), 5);
        due("to be closed, but a fault ahead", faultOf("A.B..x.x"), 7);
        due("two pairs within each other", faultOf("AB.ba"), -6);
        TagCarrier x = new TagCarrier();
        type(x, "A.");
        due("fault", x.fault(), 2);
        due("fault changes nothing", x.fault(), 2);
        x.say('a');
        due("fault, mended", x.fault(), -6);
        due("signs after fault", x.told(0), 3);
    }

    private static void load() {
        TagCarrier x = told("A.a.x", 2, "01 10");
        type(x, "B..");
        due("load with a fault", x.load(), -5);
        due("the pad stays", x.told(0), 3);
        due("the source stays", written(x), ".xA.a");
        due("links stay", x.total(5), 2);
        x.say('b');
        due("load", x.load(), 2);
        due("the pad is empty", x.told(0), 0);
        due("links are gone", x.total(5), 0);
        due("no link", x.told(10), 0);
        due("the target stays", x.told(2), 2);
        due("another pair", x.total(2), 2);
        due("no mark", x.total(4), 0);
        due("written", written(x), "Bb..");
        due("load of nothing", x.load(), 0);
        due("no pair", x.total(2), 0);
        due("no word", x.told(1), 0);
        type(x, "............");
        due("load of twelve", x.load(), 12);
    }

    private static void target() {
        TagCarrier x = told("A..a", 0, "");
        due("target", x.target(8), 0);
        due("link", x.link(1, 7), 1);
        due("target", x.target(9), -2);
        due("target", x.target(-1), -2);
        due("target", x.target(Integer.MIN_VALUE), -2);
        due("links after refused ones", x.total(5), 1);
        due("the same number", x.target(8), 8);
        due("links are gone", x.total(5), 0);
        due("target", x.target(0), 8);
        due("written", written(x), "Aa");
        due("target", x.target(3), 0);
        due("words", x.told(2), 3);
    }

    private static void link() {
        TagCarrier x = told("..", 3, "");
        int[][] unknown = {{2, 0}, {0, 3}, {-1, 0}, {0, -1}, {2, 3}, {Integer.MAX_VALUE, 0}, {0, Integer.MIN_VALUE}, {0, 32}};
        for (int[] u : unknown) {
            due("link to nothing", x.link(u[0], u[1]), -1);
        }
        due("no link", x.total(5), 0);
        due("link", x.link(1, 2), 1);
        due("link", x.link(1, 0), 1);
        due("link", x.link(0, 2), 1);
        due("links", x.told(11), 5);
        due("unlink", x.link(1, 2), 0);
        due("links", x.told(11), 1);
        due("links of another", x.told(10), 4);
        due("again", x.link(1, 2), 1);
    }

    private static void pairInSource() {
        TagCarrier x = told(".E.AB.ba.C.cDde.", 2, "");
        due("opens", x.pair(4, 0), 1);
        due("closes", x.pair(4, 1), 5);
        due("depth", x.pair(4, 2), 0);
        due("holds", x.pair(4, 3), 1 + 2 + 4 + 8);
        due("opens", x.pair(1, 0), 2);
        due("closes", x.pair(1, 1), 3);
        due("depth", x.pair(1, 2), 2);
        due("holds", x.pair(0, 3), 2);
        due("holds none", x.pair(2, 3), 0);
        due("round no word, opens", x.pair(3, 0), 5);
        due("round no word, closes", x.pair(3, 1), 5);
        due("what", x.pair(0, 10), -2);
        due("what", x.pair(0, -1), -2);
        due("no such pair", x.pair(5, 0), -1);
        due("no such pair", x.pair(-1, 0), -1);
        due("no such pair", x.pair(32, 0), -1);
        due("unknown ahead of outside", x.pair(5, 10), -1);
        due("not there", told("A.a", 1, "").pair(1, 99), -1);
    }

    private static void pairWanted() {
        TagCarrier x = told(".A..a.", 8, "06 13 11 25");
        due("round all linked words", wanted(x, 0), "1-6");
        due("not missing", x.pair(0, 9), 0);
        x = told("..A.a.", 8, "02 05 11 37");
        due("behind the nearest word that has a link", wanted(x, 0), "2-2");
        due("missing", x.pair(0, 9), 1);
        x.link(1, 1);
        due("behind the greatest word of that", wanted(x, 0), "6-6");
        x.link(0, 2);
        x.link(0, 5);
        due("none ahead has a link", wanted(x, 0), "0-0");
        x = told(".Aa.", 3, "01 12");
        due("round no word", wanted(x, 0), "2-2");
        due("round no word", x.pair(0, 9), 1);
    }

    private static void pairPlaced() {
        TagCarrier x = told("A..aB..b", 4, "00 12 21 33");
        due("styles that cross", placed(x, 0), "0-3 0");
        due("styles that cross", placed(x, 1), "0-4 1");
        x = told("D..dC..c", 6, "00 13 22 35");
        due("linked ones: words in wanted count", placed(x, 3), "0-4 0");
        due("linked ones: words in wanted count", placed(x, 2), "0-6 2");
        x = told("E.eA..aB..bC..c", 8, "00 03 13 27 33 47 53 67");
        due("a note: twice", placed(x, 4), "0-3 2");
        due("three that a note crossed", placed(x, 0) + ", " + placed(x, 1) + ", " + placed(x, 2), "3-8 0, 3-8 0, 3-8 0");
        x = told("E..eA..a", 8, "01 16 23 37");
        due("a style is moved sooner than a note", placed(x, 4), "1-7 0");
        due("a style is moved sooner than a note", placed(x, 0), "3-7 1");
        x = told("E..eC..c", 8, "00 14 23 37");
        due("a linked one is widened sooner than a note is moved", placed(x, 4), "0-5 0");
        due("a linked one is widened sooner than it loses words", placed(x, 2), "0-8 3");
        x = told(".AB.b.a", 5, "03 20");
        due("what it holds lies within it", placed(x, 0), "0-4 3");
        due("what it holds lies within it", placed(x, 1), "4-4 0");
        x = told(".EB.b.e", 5, "00 22");
        due("a note, and what it holds", placed(x, 4), "1-2 2");
        due("a note, and what it holds", placed(x, 1), "1-1 0");
        x = told("Bb.Ee", 1, "00");
        due("empty ones, each at its end", placed(x, 1) + ", " + placed(x, 4), "0-0 0, 1-1 0");
        x = told("EDd.e", 3, "02");
        due("what is held does not lie round what holds it", placed(x, 3) + ", " + placed(x, 4), "0-0 0, 0-1 4");
        x = told("C.cA.aB.bE.e", 8, "00 04 14 17 24 27 34 37");
        due("a linked one loses a word", placed(x, 2), "0-4 3");
        x = told("D.dA.aB.bE.e", 8, "00 04 14 17 24 27 34 37");
        due("the other linked one loses a word", placed(x, 3), "0-4 3");
        x = told("B.bA.aC.cE.e", 8, "00 04 14 17 24 27 34 37");
        due("a style loses a word", placed(x, 1), "0-4 1");
        x = told("A.aB.b", 2, "00 11");
        due("beside each other", placed(x, 0) + ", " + placed(x, 1), "0-1 0, 1-2 0");
        x = told("A.aB.bC.cD.dE.e", 1, "00 10 20 30 40");
        for (int p = 0; p < 5; p++) {
            due("all of one span", placed(x, p), "0-1 0");
        }
    }

    private static void pairTies() {
        TagCarrier x = told("B..bA..a", 4, "00 12 21 33");
        due("of as little PAIR 0 begins the least", placed(x, 0), "0-4 1");
        due("of as little PAIR 0 begins the least", placed(x, 1), "0-3 0");
        x = told("A..aB..b", 8, "03 17 21 35");
        due("PAIR 0 begins the least", placed(x, 0), "1-8 2");
        due("then PAIR 1", placed(x, 1), "1-6 0");
        x = told(".EDd.e", 4, "02 11");
        due("PAIR 3 ahead of PAIR 4", placed(x, 3) + ", " + placed(x, 4), "2-2 2, 1-2 0");
        x = told("E.eB.b", 3, "00 01 11 12");
        due("begins ahead of ends", placed(x, 1) + ", " + placed(x, 4), "0-3 1, 0-2 0");
    }

    private static void mark() {
        TagCarrier x = told(".x.y.z", 5, "03 11 24");
        due("gap", x.mark(1, 0), 2);
        due("wanted", x.mark(0, 1), 4);
        due("placed, the first one at the least gap", x.mark(0, 2), 2);
        due("placed", x.mark(1, 2), 2);
        due("placed", x.mark(2, 2), 5);
        due("moved", x.total(1), 2);
        x = told(".z.y.x", 8, "07 13 20");
        due("the row, not the number", x.mark(2, 2) + " " + x.mark(1, 2) + " " + x.mark(0, 2), "4 4 4");
        due("moved", x.total(1), 7);
        due("what", x.mark(0, 3), -2);
        due("what", x.mark(0, -1), -2);
        due("no such mark", x.mark(3, 0), -1);
        due("no such mark", x.mark(-1, 9), -1);
        due("not there", told("x", 0, "").mark(1, 7), -1);
        x = told("x..y", 4, "03");
        due("nothing ahead", x.mark(0, 1), 0);
        due("the nearest that has a link", x.mark(1, 1), 4);
    }

    private static void total() {
        TagCarrier x = told("A.B.b.aE..ez", 6, "02 11 20 25 34 40");
        due("cost", x.total(0), x.pair(0, 8) + x.pair(1, 8) + x.pair(4, 8));
        due("pairs", x.total(2), 19);
        due("missing", x.total(3), 0);
        due("marks", x.total(4), 4);
        due("links", x.total(5), 6);
        due("holds", x.total(7), 1);
        due("outside", x.total(8), -2);
        due("outside", x.total(-1), -2);
        x = told("AB.baC.cD..d", 6, "00 02 11 14 23 35");
        due("crossing as wanted", x.total(6), 3);
        due("holds", x.total(7), 1);
        x = told("A..aB..bC..c", 6, "00 12 22 34 40 54");
        due("beside and within is not crossing", x.total(6), 1);
        x = told("ABC.cbaDd", 0, "");
        due("holds of holds", x.total(7), 3);
        due("missing", x.total(3), 15);
    }

    private static void sign() {
        TagCarrier x = told("A.a", 2, "01");
        due("how many", x.sign(-1), 4);
        due("the first", x.sign(0), (int) '.');
        due("the last", x.sign(3), (int) 'a');
        due("none", x.sign(4), -6);
        due("none", x.sign(-2), -6);
        due("none", x.sign(Integer.MIN_VALUE), -6);
        due("none", x.sign(Integer.MAX_VALUE), -6);
        due("empty ones that what closes holds", written(told(".AB.b.a", 5, "03 20")), "A....Bba.");
        due("empty ones that what opens holds", written(told(".EB.b.e", 5, "00 22")), ".EBb.e...");
        due("empty ones in the midst", written(told("A.xB.b.a", 4, "01 20 23")), "A..xBb..a");
        due("marks are behind what closes, other empty ones behind them", written(told("A.ayBbCcxD.d", 3, "01 12")), "." + "A.ayxBbCc" + "D.d");
        due("what closes later is opened first", written(told("A.aB..b", 3, "00 10 22")), "BA.a..b");
        due("what was opened later is closed first", written(told("A.aB..b", 3, "02 10 22")), "B..A.ab");
        due("of one span: by depth, then by number", written(told("DC.cdB.bA.a", 1, "00 10 20")), "ABDC.cdba");
        due("of one span: the deepest last", written(told("CA.acB.b", 1, "00 10")), "BCA.acb");
        due("empty ones by number", written(told("EDCcdeBbAa", 0, "")), "AaBbCcDdEe");
        due("marks as they stood", written(told("zyx", 1, "")), "zyx.");
    }

    private static void image() {
        TagCarrier x = told("A.a.", 2, "01 10");
        due("outside", x.image(2), -2);
        due("outside", x.image(-1), -2);
        due("kept", x.image(1), 1);
        due("the other one was not", x.restore(0), -3);
        x.link(0, 0);
        due("kept again", x.image(1), 1);
        due("restore", x.restore(1), 1);
        due("as it was kept last", x.told(10), 3);
        x.link(0, 0);
        due("restore", x.restore(1), 1);
        due("an image is a copy", x.told(10), 3);
    }

    private static void restore() {
        TagCarrier x = told("A.a.x", 2, "01 10");
        due("state", x.restore(0), -3);
        due("outside", x.restore(2), -2);
        due("outside", x.restore(-1), -2);
        due("kept", x.image(0), 1);
        String before = written(x);
        type(x, "B.b");
        x.load();
        x.target(5);
        x.link(0, 3);
        due("kept", x.image(1), 1);
        due("another one", written(x), "...B.b.");
        type(x, "..");
        due("restore", x.restore(0), 1);
        due("written", written(x), before);
        due("target", x.told(2), 2);
        due("links", x.told(10) + " " + x.told(11), "2 1");
        due("the pad stays", x.told(0), 2);
        due("restore", x.restore(1), 1);
        due("written", written(x), "...B.b.");
        due("pairs", x.total(2), 2);
        due("marks", x.total(4), 0);
        due("restore twice", x.restore(1), 1);
    }

    private static void told() {
        TagCarrier x = told("............", 8, "00 07 b3");
        x.say('x');
        due("signs", x.told(0), 1);
        due("words", x.told(1), 12);
        due("words", x.told(2), 8);
        due("links", x.told(10), 129);
        due("links", x.told(11), 0);
        due("links", x.told(21), 8);
        for (int what : new int[] {3, 9, 22, -1, Integer.MIN_VALUE, Integer.MAX_VALUE}) {
            due("told " + what, x.told(what), -2);
        }
        due("no such word", told("..", 1, "").told(12), -2);
    }
}
