import java.math.BigInteger;
import java.util.ArrayDeque;
import java.util.ArrayList;
import java.util.Comparator;
import java.util.Deque;
import java.util.List;
import java.util.regex.Matcher;
import java.util.regex.Pattern;

/**
 * The document read a second time, in another way than the class: ratios are fractions, all that
 * follows is computed anew at each question, and the text is read by a pattern.
 */
final class Model {
    private static final int[] PRIMES = {2, 3, 5, 7};
    private static final int[] SIZES = {120000, 190196, 278631, 336883};
    private static final String NUMBER = " *[0-9]{1,4}";
    private static final String ORDER = " *(?:c *;|[fl]" + NUMBER + " *;|[th]" + NUMBER + " "
        + NUMBER + " " + NUMBER + " *;)";
    private static final Pattern TEXT = Pattern.compile("(?:" + ORDER + ")+ *");

    record Fraction(BigInteger n, BigInteger d) {
        static final Fraction ONE = of(1, 1);

        static Fraction of(long n, long d) {
            return new Fraction(BigInteger.valueOf(n), BigInteger.valueOf(d));
        }

        Fraction times(Fraction o) {
            BigInteger a = n.multiply(o.n);
            BigInteger b = d.multiply(o.d);
            BigInteger g = a.gcd(b);
            return new Fraction(a.divide(g), b.divide(g));
        }

        Fraction by(Fraction o) {
            return times(new Fraction(o.d, o.n));
        }

        int power(int k) {
            return power(n, k) - power(d, k);
        }

        private static int power(BigInteger x, int k) {
            BigInteger prime = BigInteger.valueOf(PRIMES[k]);
            int power = 0;
            for (BigInteger y = x; y.mod(prime).signum() == 0; y = y.divide(prime)) {
                power++;
            }
            return power;
        }

        int size() {
            int size = 0;
            for (int k = 0; k < 4; k++) {
                size += power(k) * SIZES[k];
            }
            return size;
        }
    }

    record Tie(int i, int j) {
    }

    /** ties has one place for each chord but the first: null where it is free. */
    record State(List<List<Fraction>> chords, List<Tie> ties, int limit) {
        State copy() {
            List<List<Fraction>> all = new ArrayList<>();
            for (List<Fraction> tones : chords) {
                all.add(new ArrayList<>(tones));
            }
            return new State(all, new ArrayList<>(ties), limit);
        }

        State withLimit(int v) {
            return new State(chords, ties, v);
        }
    }

    private State now = new State(new ArrayList<>(), new ArrayList<>(), 2000);
    private final Deque<State> states = new ArrayDeque<>();
    private final int[] refusals = new int[3];
    private String text = "";

    private int refuse(int why) {
        refusals[Due.BAD - why]++;
        return why;
    }

    private int leave(State before, int answer) {
        if (answer == Due.BAD || answer == Due.NO || answer == Due.FULL) {
            return refuse(answer);
        }
        states.push(before);
        if (states.size() > 5) {
            states.removeLast();
        }
        return answer;
    }

    private boolean chordIs(int c) {
        return c >= 0 && c < now.chords.size();
    }

    private boolean toneIs(int c, int t) {
        return chordIs(c) && t >= 0 && t < now.chords.get(c).size();
    }

    private static boolean termIs(int n) {
        return n >= 1 && n <= 64 && BigInteger.valueOf(210).pow(6).mod(BigInteger.valueOf(n)).signum() == 0;
    }

    private boolean tied(int c) {
        return c >= 0 && c < now.ties.size() && now.ties.get(c) != null;
    }

    int chord() {
        return leave(now.copy(), doChord());
    }

    private int doChord() {
        if (now.chords.size() == 12) {
            return Due.FULL;
        }
        if (!now.chords.isEmpty()) {
            now.ties.add(null);
        }
        now.chords.add(new ArrayList<>());
        return now.chords.size() - 1;
    }

    int tone(int c, int n, int d) {
        return leave(now.copy(), doTone(c, n, d));
    }

    private int doTone(int c, int n, int d) {
        if (!chordIs(c) || !termIs(n) || !termIs(d)) {
            return Due.BAD;
        }
        if (now.chords.get(c).size() == 5) {
            return Due.FULL;
        }
        now.chords.get(c).add(Fraction.ONE.times(Fraction.of(n, d)));
        return now.chords.get(c).size() - 1;
    }

    int tunes(int c, int t, int n, int d) {
        State before = now.copy();
        if (!toneIs(c, t) || !termIs(n) || !termIs(d)) {
            return refuse(Due.BAD);
        }
        now.chords.get(c).set(t, Fraction.ONE.times(Fraction.of(n, d)));
        int ties = 0;
        for (int b = 0; b < now.ties.size(); b++) {
            Tie tie = now.ties.get(b);
            if (tie != null && ((b == c && tie.i == t) || (b + 1 == c && tie.j == t))) {
                ties++;
            }
        }
        return leave(before, ties);
    }

    int holds(int c, int i, int j) {
        return leave(now.copy(), doHolds(c, i, j));
    }

    private int doHolds(int c, int i, int j) {
        if (!toneIs(c, i)) {
            return Due.BAD;
        }
        if (c == now.chords.size() - 1) {
            return Due.NO;
        }
        if (!toneIs(c + 1, j)) {
            return Due.BAD;
        }
        return now.ties.set(c, new Tie(i, j)) == null ? 0 : 1;
    }

    int frees(int c) {
        return leave(now.copy(), doFrees(c));
    }

    private int doFrees(int c) {
        if (!chordIs(c)) {
            return Due.BAD;
        }
        if (c == now.chords.size() - 1) {
            return Due.NO;
        }
        return now.ties.set(c, null) == null ? 0 : 1;
    }

    int drops() {
        State before = now.copy();
        if (now.chords.isEmpty()) {
            return refuse(Due.NO);
        }
        now.chords.remove(now.chords.size() - 1);
        if (!now.ties.isEmpty()) {
            now.ties.remove(now.ties.size() - 1);
        }
        return leave(before, now.chords.size());
    }

    int limit(int v) {
        return leave(now.copy(), doLimit(v));
    }

    private int doLimit(int v) {
        if (v < 0 || v > 9999) {
            return Due.BAD;
        }
        int was = now.limit;
        now = now.withLimit(v);
        return was;
    }

    private static int drift(int size, int step) {
        int best = Integer.MIN_VALUE;
        for (int k = -400; k <= 400; k++) {
            int left = size - step * k;
            if (Math.abs(left) < Math.abs((long) best)) {
                best = left;
            }
        }
        return best;
    }

    private Fraction rootOf(int c) {
        if (!tied(c - 1)) {
            return Fraction.ONE;
        }
        Tie tie = now.ties.get(c - 1);
        return rootOf(c - 1).times(now.chords.get(c - 1).get(tie.i)).by(now.chords.get(c).get(tie.j));
    }

    private List<int[]> parts() {
        List<int[]> parts = new ArrayList<>();
        for (int c = 0; c < now.chords.size(); c++) {
            if (!tied(c - 1)) {
                parts.add(new int[] {c, c});
            }
            parts.get(parts.size() - 1)[1] = c;
        }
        return parts;
    }

    private int partOf(int c) {
        int p = 0;
        while (parts().get(p)[1] < c) {
            p++;
        }
        return p;
    }

    private int shareOf(int c) {
        int[] part = parts().get(partOf(c));
        int left = Math.abs(drift(rootOf(part[1]).size(), 120000));
        int sign = drift(rootOf(part[1]).size(), 120000) > 0 ? -1 : 1;
        int[] dealt = new int[part[1] - part[0]];
        for (int at = 0; left > 0; left--) {
            dealt[at]++;
            at = (at + 1) % dealt.length;
        }
        return sign * Math.min(dealt[c - part[0]], now.limit);
    }

    private int setOf(int c) {
        int set = 0;
        for (int b = parts().get(partOf(c))[0]; b < c; b++) {
            set += shareOf(b);
        }
        return set;
    }

    private List<Integer> sorted(int c) {
        List<Integer> tones = new ArrayList<>();
        for (int t = 0; t < now.chords.get(c).size(); t++) {
            tones.add(t);
        }
        tones.sort(Comparator.comparingInt(t -> now.chords.get(c).get(t).size()));
        return tones;
    }

    int of(int c, int t, int what) {
        if (!toneIs(c, t) || what < 0 || what > 4) {
            return refuse(Due.BAD);
        }
        Fraction ratio = now.chords.get(c).get(t);
        return what == 4 ? ratio.size() : ratio.power(what);
    }

    int root(int c, int what) {
        if (!chordIs(c) || what < 0 || what > 6) {
            return refuse(Due.BAD);
        }
        Fraction root = rootOf(c);
        return what == 6 ? partOf(c) : what == 5 ? drift(root.size(), 120000) : what == 4 ? root.size()
            : root.power(what);
    }

    int pitch(int c, int t, int what) {
        if (!toneIs(c, t) || what < 0 || what > 5) {
            return refuse(Due.BAD);
        }
        Fraction pitch = rootOf(c).times(now.chords.get(c).get(t));
        return what == 5 ? pitch.size() + setOf(c) : what == 4 ? pitch.size() : pitch.power(what);
    }

    int tie(int c, int what) {
        if (!chordIs(c) || what < 0 || what > 1) {
            return refuse(Due.BAD);
        }
        if (c == now.chords.size() - 1) {
            return refuse(Due.NO);
        }
        Tie tie = now.ties.get(c);
        return tie == null ? Due.NONE : what == 0 ? tie.i : tie.j;
    }

    int loop(int a, int b, int what) {
        if (!chordIs(a) || !chordIs(b) || what < 0 || what > 4) {
            return refuse(Due.BAD);
        }
        if (partOf(a) != partOf(b)) {
            return refuse(Due.NO);
        }
        Fraction way = rootOf(b).by(rootOf(a));
        return what == 4 ? drift(way.size(), 120000) : way.power(what);
    }

    int part(int p, int what) {
        if (p < 0 || p >= parts().size() || what < 0 || what > 3) {
            return refuse(Due.BAD);
        }
        int first = parts().get(p)[0];
        int last = parts().get(p)[1];
        int drift = drift(rootOf(last).size(), 120000);
        return what == 0 ? first : what == 1 ? last - first + 1 : what == 2 ? drift : drift + setOf(last);
    }

    int share(int c) {
        if (!chordIs(c)) {
            return refuse(Due.BAD);
        }
        return tied(c) ? shareOf(c) : refuse(Due.NO);
    }

    int set(int c) {
        return chordIs(c) ? setOf(c) : refuse(Due.BAD);
    }

    int count(int what) {
        int ties = 0;
        int greatest = 0;
        for (int c = 0; c < now.ties.size(); c++) {
            if (tied(c)) {
                ties++;
                greatest = Math.max(greatest, Math.abs(shareOf(c)));
            }
        }
        int tones = now.chords.stream().mapToInt(List::size).sum();
        int[] row = {now.chords.size(), parts().size(), ties, tones, now.limit, greatest};
        return what < 0 || what > 5 ? refuse(Due.BAD) : row[what];
    }

    int interval(int c, int i, int j, int what) {
        if (!toneIs(c, i) || !toneIs(c, j) || i == j || what < 0 || what > 4) {
            return refuse(Due.BAD);
        }
        Fraction way = now.chords.get(c).get(j).by(now.chords.get(c).get(i));
        int above = way.n.intValueExact();
        int below = way.d.intValueExact();
        int meet = above > 16 || below > 16 ? Due.NONE : above * below;
        int[] row = {above, below, way.size(), drift(way.size(), 10000), meet};
        return row[what];
    }

    int order(int c, int k) {
        return toneIs(c, k) ? sorted(c).get(k) : refuse(Due.BAD);
    }

    private int sung(int v, int c) {
        List<Integer> tones = sorted(c);
        return tones.isEmpty() ? Due.NONE : tones.get(Math.min(v, tones.size() - 1));
    }

    int voice(int v, int c) {
        return v < 0 || v > 4 || !chordIs(c) ? refuse(Due.BAD) : sung(v, c);
    }

    int leap(int v, int c) {
        if (v < 0 || v > 4 || c <= 0 || !chordIs(c)) {
            return refuse(Due.BAD);
        }
        if (!tied(c - 1) || sung(v, c) == Due.NONE || sung(v, c - 1) == Due.NONE) {
            return Due.NONE;
        }
        return pitch(c, sung(v, c), 5) - pitch(c - 1, sung(v, c - 1), 5);
    }

    int type(int c) {
        if (c < 0 || c > 127) {
            return refuse(Due.BAD);
        }
        if (text.length() == 120) {
            return refuse(Due.FULL);
        }
        text += (char) c;
        return text.length();
    }

    int clear() {
        int had = text.length();
        text = "";
        return had;
    }

    /** The first place whose byte makes a start that no text could go on from; -1: no fault. */
    private int fault() {
        for (int length = 1; length <= text.length(); length++) {
            Matcher start = TEXT.matcher(text.substring(0, length));
            if (!start.matches() && !start.hitEnd()) {
                return length - 1;
            }
        }
        return TEXT.matcher(text).matches() ? -1 : text.length();
    }

    int does() {
        if (fault() >= 0) {
            return -10 - fault();
        }
        State before = now.copy();
        Matcher orders = Pattern.compile("([cthfl])([0-9 ]*);").matcher(text);
        int done = 0;
        while (orders.find()) {
            int answer = doOrder(orders.group(1), orders.group(2).trim().split(" +"));
            if (answer == Due.BAD || answer == Due.NO || answer == Due.FULL) {
                now = before;
                return -1000 - done;
            }
            done++;
        }
        return leave(before, done);
    }

    private int doOrder(String letter, String[] words) {
        int[] n = new int[3];
        for (int i = 0; i < words.length && !words[i].isEmpty(); i++) {
            n[i] = Integer.parseInt(words[i]);
        }
        switch (letter) {
            case "c": return doChord();
            case "t": return doTone(n[0], n[1], n[2]);
            case "h": return doHolds(n[0], n[1], n[2]);
            case "f": return doFrees(n[0]);
            default: return doLimit(n[0]);
        }
    }

    int back() {
        if (states.isEmpty()) {
            return refuse(Due.NO);
        }
        now = states.pop();
        return states.size();
    }

    int told(int what) {
        int[] row = {refusals[0], refusals[1], refusals[2], text.length(), states.size()};
        return what < 0 || what > 4 ? refuse(Due.BAD) : row[what];
    }

    long digest() {
        List<Integer> row = new ArrayList<>();
        for (int what = 0; what <= 4; what++) {
            row.add(told(what));
        }
        for (int what = 0; what <= 5; what++) {
            row.add(count(what));
        }
        for (int c = 0; c < now.chords.size(); c++) {
            for (int what = 0; what <= 6; what++) {
                row.add(root(c, what));
            }
            row.add(set(c));
            for (int t = 0; t < now.chords.get(c).size(); t++) {
                for (int what = 0; what <= 3; what++) {
                    row.add(of(c, t, what));
                }
                row.add(pitch(c, t, 5));
            }
            row.addAll(sorted(c));
        }
        for (int c = 0; c < now.ties.size(); c++) {
            if (tied(c)) {
                row.addAll(List.of(tie(c, 0), tie(c, 1), share(c)));
            }
        }
        for (int p = 0; p < parts().size(); p++) {
            row.addAll(List.of(part(p, 0), part(p, 1), part(p, 2), part(p, 3)));
        }
        long h = 1775;
        for (int v : row) {
            h = 31 * h + v;
        }
        return h;
    }
}
