/** A carrier whose calls are counted, as the document promises nothing of those behind the 512th. */
final class Counted {
    static final int CALLS = 512;

    private final TagCarrier carrier = new TagCarrier();
    private int calls = 0;

    /** Links are told as "01 b7": of WORD 0 and 1, of WORD 11 and 7. */
    static Counted told(String source, int words, String links) {
        Counted x = new Counted();
        x.tell(source, words, links);
        return x;
    }

    /** Something in every part: two images (or one), a source, a target, links, and what is on the pad. */
    static Counted rich(String pad, boolean bothImages) {
        Counted x = told("A.xB.b.a", 4, "00 12 23");
        x.image(0);
        if (bothImages) {
            x.tell("z.C.c", 3, "02 11");
            x.image(1);
        }
        x.tell("D.dyE..e", 5, "00 03 11 24");
        x.type(pad);
        return x;
    }

    void tell(String source, int words, String links) {
        wipe();
        type(source);
        Due.due("load of " + source, load() >= 0, true);
        target(words);
        link(links);
    }

    void type(String signs) {
        for (char c : signs.toCharArray()) {
            say(c);
        }
    }

    void link(String links) {
        for (String l : links.split(" ")) {
            if (!l.isEmpty()) {
                Due.due("link " + l, link(Character.digit(l.charAt(0), 16), l.charAt(1) - '0'), 1);
            }
        }
    }

    int calls() {
        return calls;
    }

    String written() {
        StringBuilder b = new StringBuilder();
        int many = sign(-1);
        for (int i = 0; i < many; i++) {
            b.append((char) sign(i));
        }
        return b.toString();
    }

    String wanted(int pair) {
        return pair(pair, 4) + "-" + pair(pair, 5);
    }

    String placed(int pair) {
        return pair(pair, 6) + "-" + pair(pair, 7);
    }

    /** Where the pair is placed, and its cost. */
    String carried(int pair) {
        return placed(pair) + " at " + pair(pair, 8);
    }

    /** Everything that calls which change nothing tell. */
    String seen() {
        StringBuilder b = new StringBuilder("fault ").append(fault()).append(", told");
        for (int what = 0; what <= 21; what++) {
            b.append(what > 2 && what < 10 ? "" : " " + told(what));
        }
        b.append(", total");
        for (int what = 0; what <= 7; what++) {
            b.append(' ').append(total(what));
        }
        for (int p = 0; p < 5; p++) {
            b.append(", pair").append(p);
            for (int what = 0; what <= (pair(p, 0) < 0 ? -1 : 9); what++) {
                b.append(' ').append(pair(p, what));
            }
        }
        for (int m = 0; m < 3; m++) {
            b.append(", mark").append(m);
            for (int what = 0; what <= 2; what++) {
                b.append(' ').append(mark(m, what));
            }
        }
        return b.append(", written ").append(written()).toString();
    }

    /** Everything there is, by calls that change the object: what is seen, then both images, then the pad. */
    String seenThrough() {
        StringBuilder b = new StringBuilder(seen());
        b.append("\n restore ").append(restore(0)).append(' ').append(seen());
        b.append("\n restore ").append(restore(1)).append(' ').append(seen());
        b.append("\n load ").append(load()).append(' ').append(seen());
        return b.append("\n wipe ").append(wipe()).toString();
    }

    private TagCarrier counted() {
        calls++;
        if (calls > CALLS) {
            throw new IllegalStateException("a test makes more than " + CALLS + " calls on one object");
        }
        return carrier;
    }

    int say(int sign) {
        return counted().say(sign);
    }

    int wipe() {
        return counted().wipe();
    }

    int fault() {
        return counted().fault();
    }

    int load() {
        return counted().load();
    }

    int target(int words) {
        return counted().target(words);
    }

    int link(int word, int other) {
        return counted().link(word, other);
    }

    int pair(int pair, int what) {
        return counted().pair(pair, what);
    }

    int mark(int mark, int what) {
        return counted().mark(mark, what);
    }

    int total(int what) {
        return counted().total(what);
    }

    int sign(int i) {
        return counted().sign(i);
    }

    int image(int n) {
        return counted().image(n);
    }

    int restore(int n) {
        return counted().restore(n);
    }

    int told(int what) {
        return counted().told(what);
    }
}
