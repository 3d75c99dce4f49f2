import java.util.ArrayList;
import java.util.Collections;
import java.util.Comparator;
import java.util.HashMap;
import java.util.List;
import java.util.Map;
import java.util.Random;

/**
 * Random runs of calls, each answer held against a model that follows the document's words
 * as plainly as it can: it looks at every way to PLACE the PAIRS, in the order in which
 * the document prefers them, and at every way to PLACE the MARKS.
 */
public final class ModelTest {
    private static final int RUNS = 1500;
    private static final int CALLS = 512;
    private static int wrong = 0;

    public static void main(String[] args) {
        for (int run = 0; run < RUNS && wrong < 20; run++) {
            new Run(run).go();
        }
        System.out.println(wrong == 0 ? "ModelTest: all as due" : "ModelTest: " + wrong + " wrong");
        if (wrong != 0) {
            System.exit(1);
        }
    }

    /** What an image keeps. */
    private static final class Told {
        String source = "";
        int target = 0;
        boolean[][] links = new boolean[12][8];

        Told copy() {
            Told t = new Told();
            t.source = source;
            t.target = target;
            for (int w = 0; w < 12; w++) {
                t.links[w] = links[w].clone();
            }
            return t;
        }

        int words() {
            return (int) source.chars().filter(c -> c == '.').count();
        }

        int gapAt(int place) {
            return (int) source.substring(0, place).chars().filter(c -> c == '.').count();
        }

        int anchor(int gap) {
            for (int w = gap - 1; w >= 0; w--) {
                for (int t = 7; t >= 0; t--) {
                    if (links[w][t]) {
                        return t + 1;
                    }
                }
            }
            return 0;
        }
    }

    private static final class Pair {
        int number;
        int opensAt;
        int closesAt;
        int opens;
        int closes;
        int wantedFrom;
        int wantedTo;
        boolean missing;
        int from;
        int to;

        boolean holds(Pair other) {
            return opensAt < other.opensAt && other.closesAt < closesAt;
        }

        int cost(int a, int b) {
            int begins = Math.abs(a - wantedFrom);
            int ends = Math.abs(b - wantedTo);
            if (number == 4) {
                return 2 * Math.max(begins, ends);
            }
            int cost = begins + ends;
            for (int w = wantedFrom; w < wantedTo && number >= 2; w++) {
                cost += a <= w && w < b ? 0 : 2;
            }
            return cost;
        }

        boolean empty() {
            return from == to;
        }
    }

    private static boolean fit(int a, int b, int c, int d) {
        boolean within = c <= a && b <= d || a <= c && d <= b;
        boolean beside = b <= c || d <= a;
        return within || beside;
    }

    /** All that follows from what was told. */
    private static final class Carried {
        final Told told;
        final List<Pair> pairs = new ArrayList<>();
        final List<Integer> marks = new ArrayList<>();
        final Map<Integer, Integer> markWanted = new HashMap<>();
        final Map<Integer, Integer> markPlaced = new HashMap<>();
        int leastCost = Integer.MAX_VALUE;
        int leastMoved = Integer.MAX_VALUE;
        String written;

        Carried(Told told) {
            this.told = told;
            for (int p = 0; p < 5; p++) {
                if (told.source.indexOf('A' + p) >= 0) {
                    pairs.add(wantedPair(p));
                }
            }
            int[][] best = new int[pairs.size()][2];
            placePairs(0, 0, new int[pairs.size()][2], best);
            for (int i = 0; i < pairs.size(); i++) {
                pairs.get(i).from = best[i][0];
                pairs.get(i).to = best[i][1];
            }
            for (char c : told.source.toCharArray()) {
                if (c >= 'x') {
                    marks.add(c - 'x');
                    markWanted.put(c - 'x', told.anchor(told.gapAt(told.source.indexOf(c))));
                }
            }
            placeMarks(0, 0, 0, new int[marks.size()]);
            StringBuilder b = new StringBuilder();
            for (int g = 0; g <= told.target; g++) {
                b.append(g > 0 ? "." : "").append(gap(g));
            }
            written = b.toString();
        }

        private Pair wantedPair(int number) {
            Pair p = new Pair();
            p.number = number;
            p.opensAt = told.source.indexOf('A' + number);
            p.closesAt = told.source.indexOf('a' + number);
            p.opens = told.gapAt(p.opensAt);
            p.closes = told.gapAt(p.closesAt);
            int least = 99;
            int greatest = -1;
            for (int w = p.opens; w < p.closes; w++) {
                for (int t = 0; t < 8; t++) {
                    if (told.links[w][t]) {
                        least = Math.min(least, t);
                        greatest = Math.max(greatest, t);
                    }
                }
            }
            p.missing = greatest < 0;
            p.wantedFrom = p.missing ? told.anchor(p.opens) : least;
            p.wantedTo = p.missing ? told.anchor(p.opens) : greatest + 1;
            return p;
        }

        /** Ways come in the preferred order, so only a lesser cost takes the place of the best one. */
        private void placePairs(int i, int cost, int[][] way, int[][] best) {
            if (cost >= leastCost) {
                return;
            }
            if (i == pairs.size()) {
                leastCost = cost;
                for (int k = 0; k < i; k++) {
                    best[k] = way[k].clone();
                }
                return;
            }
            for (int a = 0; a <= told.target; a++) {
                for (int b = a; b <= told.target; b++) {
                    way[i][0] = a;
                    way[i][1] = b;
                    if (fitsAll(i, way)) {
                        placePairs(i + 1, cost + pairs.get(i).cost(a, b), way, best);
                    }
                }
            }
        }

        private boolean fitsAll(int i, int[][] way) {
            for (int k = 0; k < i; k++) {
                int[] s = way[k];
                int[] t = way[i];
                if (!fit(s[0], s[1], t[0], t[1])
                    || pairs.get(k).holds(pairs.get(i)) && (t[0] < s[0] || t[1] > s[1])
                    || pairs.get(i).holds(pairs.get(k)) && (s[0] < t[0] || s[1] > t[1])) {
                    return false;
                }
            }
            return true;
        }

        private void placeMarks(int i, int from, int moved, int[] way) {
            if (i == marks.size()) {
                if (moved < leastMoved) {
                    leastMoved = moved;
                    for (int k = 0; k < i; k++) {
                        markPlaced.put(marks.get(k), way[k]);
                    }
                }
                return;
            }
            for (int g = from; g <= told.target; g++) {
                way[i] = g;
                placeMarks(i + 1, g, moved + Math.abs(g - markWanted.get(marks.get(i))), way);
            }
        }

        int depth(Pair p) {
            return (int) pairs.stream().filter(q -> q.holds(p)).count();
        }

        private String gap(int g) {
            List<Pair> closing = new ArrayList<>();
            List<Pair> opening = new ArrayList<>();
            List<Pair> empty = new ArrayList<>();
            for (Pair p : pairs) {
                if (p.empty() && p.from == g) {
                    empty.add(p);
                } else if (p.to == g) {
                    closing.add(p);
                } else if (p.from == g) {
                    opening.add(p);
                }
            }
            closing.sort(Comparator.comparingInt((Pair p) -> -p.from).thenComparingInt(p -> -depth(p)).thenComparingInt(p -> -p.number));
            opening.sort(Comparator.comparingInt((Pair p) -> -p.to).thenComparingInt(p -> depth(p)).thenComparingInt(p -> p.number));
            StringBuilder first = new StringBuilder();
            StringBuilder middle = new StringBuilder();
            StringBuilder last = new StringBuilder();
            for (Pair p : empty) {
                boolean held = closing.stream().anyMatch(q -> q.holds(p));
                boolean heldByOpening = opening.stream().anyMatch(q -> q.holds(p));
                StringBuilder b = held ? first : heldByOpening ? last : middle;
                b.append((char) ('A' + p.number)).append((char) ('a' + p.number));
            }
            StringBuilder all = new StringBuilder(first);
            closing.forEach(p -> all.append((char) ('a' + p.number)));
            for (int m : marks) {
                all.append(markPlaced.get(m) == g ? String.valueOf((char) ('x' + m)) : "");
            }
            all.append(middle);
            opening.forEach(p -> all.append((char) ('A' + p.number)));
            return all.append(last).toString();
        }
    }

    /** One object, one model, up to 512 calls. */
    private static final class Run {
        final int number;
        final Random random;
        final TagCarrier carrier = new TagCarrier();
        String pad = "";
        Told told = new Told();
        final Told[] images = new Told[2];
        Carried carried = null;
        int calls = 0;
        final StringBuilder log = new StringBuilder();

        Run(int number) {
            this.number = number;
            this.random = new Random(7919L * number + 13);
        }

        void due(String call, int got, int want) {
            calls++;
            log.append(call).append('=').append(got).append("; ");
            if (got != want) {
                wrong++;
                System.out.println("run " + number + ": " + call + " answered " + got + ", due is " + want + "\n  " + log);
            }
        }

        void go() {
            while (calls < CALLS - 200 && wrong < 20) {
                tellSentence();
                for (int i = random.nextInt(30); i > 0; i--) {
                    anyCall();
                }
                askAll();
            }
            while (calls < CALLS && wrong < 20) {
                anyCall();
            }
        }

        void tellSentence() {
            wipe();
            boolean crowded = random.nextBoolean();
            String sentence = crowded ? crowdedSentence() : sentence();
            for (char c : sentence.toCharArray()) {
                say(c);
            }
            fault();
            load();
            if (crowded || random.nextInt(3) > 0) {
                target(crowded ? 4 + random.nextInt(5) : random.nextInt(9));
            }
            int links = crowded ? 5 + random.nextInt(20) : random.nextInt(14);
            for (int i = 0; i < links; i++) {
                link(random.nextInt(told.words() + 1), random.nextInt(told.target + 1));
            }
        }

        String sentence() {
            StringBuilder b = new StringBuilder();
            StringBuilder open = new StringBuilder();
            int many = random.nextInt(24);
            for (int i = 0; i < many; i++) {
                int kind = random.nextInt(10);
                if (kind < 5) {
                    b.append('.');
                } else if (kind < 8) {
                    char c = (char) ('A' + random.nextInt(5));
                    if (b.indexOf(String.valueOf(c)) < 0) {
                        b.append(c);
                        open.append(c);
                    }
                } else if (kind == 8 && open.length() > 0) {
                    b.append(Character.toLowerCase(open.charAt(open.length() - 1)));
                    open.setLength(open.length() - 1);
                } else {
                    char c = (char) ('x' + random.nextInt(3));
                    if (b.indexOf(String.valueOf(c)) < 0) {
                        b.append(c);
                    }
                }
            }
            b.append(open.reverse().toString().toLowerCase());
            if (random.nextInt(15) == 0 && b.length() > 0) {
                b.setCharAt(random.nextInt(b.length()), ".AaBbxyzFfw!~".charAt(random.nextInt(13)));
            }
            return b.toString();
        }

        /** PAIRS round a word or more each, so that many cross; some beside each other, some within others. */
        String crowdedSentence() {
            List<Integer> left = new ArrayList<>(List.of(0, 1, 2, 3, 4));
            Collections.shuffle(left, random);
            StringBuilder b = new StringBuilder();
            StringBuilder open = new StringBuilder();
            int keep = random.nextInt(3) == 0 ? 2 : 0;
            while (left.size() > keep || open.length() > 0) {
                boolean opens = left.size() > keep && (open.length() == 0 || random.nextInt(3) == 0);
                if (opens) {
                    char c = (char) ('A' + left.remove(0));
                    b.append(c);
                    open.append(c);
                } else {
                    b.append(Character.toLowerCase(open.charAt(open.length() - 1)));
                    open.setLength(open.length() - 1);
                }
                b.append(random.nextInt(opens ? 10 : 4) > 0 && words(b) < 12 ? "." : "");
            }
            return b.toString();
        }

        int words(CharSequence signs) {
            return (int) signs.chars().filter(c -> c == '.').count();
        }

        void anyCall() {
            switch (random.nextInt(16)) {
                case 0: say(random.nextInt(3) > 0 ? ".ABCDEabcdexyz".charAt(random.nextInt(14)) : random.nextInt(140) - 5); break;
                case 1: if (random.nextInt(4) == 0) { wipe(); } else { fault(); } break;
                case 2: if (random.nextInt(4) == 0) { load(); } else { fault(); } break;
                case 3: if (random.nextInt(6) == 0) { target(random.nextInt(12) - 2); } break;
                case 4: pair(random.nextInt(8) - 1, random.nextInt(13) - 1); break;
                case 5: mark(random.nextInt(5) - 1, random.nextInt(5) - 1); break;
                case 6: total(random.nextInt(11) - 1); break;
                case 7: sign(random.nextInt(26) - 2); break;
                case 8: image(random.nextInt(4) - 1); break;
                case 9: if (random.nextInt(3) == 0) { restore(random.nextInt(4) - 1); } break;
                case 10: tell(random.nextInt(26) - 2); break;
                default: link(random.nextInt(14) - 1, random.nextInt(10) - 1); break;
            }
        }

        void askAll() {
            for (int p = 0; p < 5; p++) {
                for (int what = 0; what <= 9 && told.source.indexOf('A' + p) >= 0; what++) {
                    pair(p, what);
                }
            }
            for (int m = 0; m < 3; m++) {
                for (int what = 0; what <= 2; what++) {
                    mark(m, what);
                }
            }
            for (int what = 0; what <= 7; what++) {
                total(what);
            }
            for (int i = -1; i <= carried().written.length(); i++) {
                sign(i);
            }
        }

        Carried carried() {
            if (carried == null) {
                carried = new Carried(told);
            }
            return carried;
        }

        void say(int sign) {
            int want = sign < 33 || sign > 126 ? -2 : pad.length() == 30 ? -4 : pad.length() + 1;
            pad += want > 0 ? String.valueOf((char) sign) : "";
            due("say(" + sign + ")", carrier.say(sign), want);
        }

        void wipe() {
            due("wipe()", carrier.wipe(), pad.length());
            pad = "";
        }

        int faultOfPad() {
            String open = "";
            for (int i = 0; i < pad.length(); i++) {
                char c = pad.charAt(i);
                String ahead = pad.substring(0, i);
                boolean there = ahead.indexOf(c) >= 0;
                if (c == '.') {
                    if (ahead.chars().filter(w -> w == '.').count() == 12) {
                        return i;
                    }
                } else if ("ABCDE".indexOf(c) >= 0 && !there) {
                    open += c;
                } else if ("abcde".indexOf(c) >= 0 && open.endsWith(String.valueOf(Character.toUpperCase(c)))) {
                    open = open.substring(0, open.length() - 1);
                } else if ("xyz".indexOf(c) < 0 || there) {
                    return i;
                }
            }
            return open.isEmpty() ? -6 : pad.length();
        }

        void fault() {
            due("fault()", carrier.fault(), faultOfPad());
        }

        void load() {
            if (faultOfPad() != -6) {
                due("load()", carrier.load(), -5);
                return;
            }
            told.source = pad;
            told.links = new boolean[12][8];
            pad = "";
            carried = null;
            due("load()", carrier.load(), told.words());
        }

        void target(int words) {
            if (words < 0 || words > 8) {
                due("target(" + words + ")", carrier.target(words), -2);
                return;
            }
            due("target(" + words + ")", carrier.target(words), told.target);
            told.target = words;
            told.links = new boolean[12][8];
            carried = null;
        }

        void link(int word, int other) {
            int want = -1;
            if (word >= 0 && word < told.words() && other >= 0 && other < told.target) {
                told.links[word][other] = !told.links[word][other];
                want = told.links[word][other] ? 1 : 0;
                carried = null;
            }
            due("link(" + word + ", " + other + ")", carrier.link(word, other), want);
        }

        void pair(int number, int what) {
            Pair p = carried().pairs.stream().filter(q -> q.number == number).findAny().orElse(null);
            int want = p == null ? -1 : what < 0 || what > 9 ? -2 : ofPair(p, what);
            due("pair(" + number + ", " + what + ")", carrier.pair(number, what), want);
        }

        int ofPair(Pair p, int what) {
            int held = 0;
            for (Pair q : carried().pairs) {
                held += p.holds(q) ? 1 << q.number : 0;
            }
            int[] all = {p.opens, p.closes, carried().depth(p), held, p.wantedFrom, p.wantedTo, p.from, p.to,
                p.cost(p.from, p.to), p.missing ? 1 : 0};
            return all[what];
        }

        void mark(int mark, int what) {
            int want = -1;
            if (carried().marks.contains(mark)) {
                int gap = told.gapAt(told.source.indexOf('x' + mark));
                int[] all = {gap, carried().markWanted.get(mark), carried().markPlaced.get(mark)};
                want = what < 0 || what > 2 ? -2 : all[what];
            }
            due("mark(" + mark + ", " + what + ")", carrier.mark(mark, what), want);
        }

        void total(int what) {
            int cost = 0;
            int there = 0;
            int missing = 0;
            int marks = 0;
            int links = 0;
            int crossings = 0;
            int holds = 0;
            for (Pair p : carried().pairs) {
                cost += p.cost(p.from, p.to);
                there += 1 << p.number;
                missing += p.missing ? 1 << p.number : 0;
                for (Pair q : carried().pairs) {
                    holds += p.holds(q) ? 1 : 0;
                    boolean crosses = !fit(p.wantedFrom, p.wantedTo, q.wantedFrom, q.wantedTo);
                    crossings += p.number < q.number && crosses ? 1 : 0;
                }
            }
            for (int m : carried().marks) {
                marks += 1 << m;
            }
            for (boolean[] row : told.links) {
                for (boolean linked : row) {
                    links += linked ? 1 : 0;
                }
            }
            int[] all = {cost, carried().leastMoved, there, missing, marks, links, crossings, holds};
            due("total(" + what + ")", carrier.total(what), what < 0 || what > 7 ? -2 : all[what]);
        }

        void sign(int i) {
            String written = carried().written;
            int want = i == -1 ? written.length() : i < 0 || i >= written.length() ? -6 : written.charAt(i);
            due("sign(" + i + ")", carrier.sign(i), want);
        }

        void image(int n) {
            if (n == 0 || n == 1) {
                images[n] = told.copy();
            }
            due("image(" + n + ")", carrier.image(n), n == 0 || n == 1 ? 1 : -2);
        }

        void restore(int n) {
            boolean known = n == 0 || n == 1;
            int want = !known ? -2 : images[n] == null ? -3 : 1;
            if (want == 1) {
                told = images[n].copy();
                carried = null;
            }
            due("restore(" + n + ")", carrier.restore(n), want);
        }

        void tell(int what) {
            int want = -2;
            if (what >= 0 && what <= 2) {
                want = new int[] {pad.length(), told.words(), told.target}[what];
            } else if (what >= 10 && what < 10 + told.words()) {
                want = 0;
                for (int t = 0; t < 8; t++) {
                    want += told.links[what - 10][t] ? 1 << t : 0;
                }
            }
            due("told(" + what + ")", carrier.told(what), want);
        }
    }
}
