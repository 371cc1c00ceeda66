import java.util.Random;

/** Long runs of calls, right and wrong ones mixed, against the model; the seed is fixed. */
public final class ModelTest {
    private static final int RUNS = 150;
    // an object is promised 512 calls; the last text may go beyond this by some forty
    private static final int CALLS = 440;
    private static final int[] TERMS = {1, 2, 3, 4, 5, 6, 7, 8, 9, 10, 12, 15, 16, 25, 27, 32, 35, 45, 49, 63, 64};
    private static final String[] SCRAPS = {"c;", "c;t0 1 1;", "t 1 3 2;", "h0 0 0;", "h 1 1 0 ;", "f 0;", "l 500;",
        "l9999 ;", "f1;", " ", "t", "0", "12", ";", "c", "x", "7 ", "h0 ", "12345", "t 11 5 4;", "t0 64 63;"};

    private final Due due = new Due();
    private final Random random = new Random(1775);
    private CommaChoir x;
    private Model m;

    public static void main(String[] args) {
        ModelTest test = new ModelTest();
        for (int run = 0; run < RUNS && test.due.isFaultless(); run++) {
            test.run(run);
        }
        test.due.end();
    }

    private void run(int number) {
        x = new CommaChoir();
        m = new Model();
        int start = due.asked();
        if (number % 4 != 0) {
            fill(1 + random.nextInt(12));
        }
        while (due.asked() - start < CALLS && due.isFaultless()) {
            if (random.nextInt(3) == 0) {
                change(number % 2);
            } else {
                ask();
            }
            if (random.nextInt(16) == 0) {
                due.is("digest()", x.digest(), m.digest());
            }
        }
        due.is("digest() at the end", x.digest(), m.digest());
    }

    private void fill(int chords) {
        for (int c = 0; c < chords; c++) {
            due.is("chord()", x.chord(), m.chord());
            int tones = 1 + random.nextInt(5);
            for (int t = 0; t < tones; t++) {
                tone(c, term(), term());
            }
            if (c > 0) {
                holds(c - 1, random.nextInt(3), random.nextInt(3));
            }
        }
    }

    private int term() {
        return TERMS[random.nextInt(TERMS.length)];
    }

    /** Mostly below top; sometimes just outside, or far away. */
    private int number(int top) {
        int kind = random.nextInt(40);
        if (kind == 0) {
            return new int[] {-1, top, Integer.MIN_VALUE, Integer.MAX_VALUE, 65, 11}[random.nextInt(6)];
        }
        return random.nextInt(top);
    }

    private int chordNumber() {
        return number(Math.max(1, m.count(0)));
    }

    private void tone(int c, int n, int d) {
        due.is("tone(" + c + ", " + n + ", " + d + ")", x.tone(c, n, d), m.tone(c, n, d));
    }

    private void holds(int c, int i, int j) {
        due.is("holds(" + c + ", " + i + ", " + j + ")", x.holds(c, i, j), m.holds(c, i, j));
    }

    private void change(int droppy) {
        int c = chordNumber();
        int t = number(4);
        switch (random.nextInt(12)) {
            case 0: due.is("chord()", x.chord(), m.chord()); break;
            case 1: tone(c, number(30) == 0 ? number(70) : term(), term()); break;
            case 2: case 3: tunes(c, t, term(), number(30) == 0 ? number(70) : term()); break;
            case 4: case 5: holds(c, t, number(4)); break;
            case 6: due.is("frees(" + c + ")", x.frees(c), m.frees(c)); break;
            case 7:
                if (droppy == 1) {
                    due.is("drops()", x.drops(), m.drops());
                }
                break;
            case 8: limit(number(random.nextBoolean() ? 10000 : 600)); break;
            case 9: due.is("back()", x.back(), m.back()); break;
            default: text();
        }
    }

    private void tunes(int c, int t, int n, int d) {
        due.is("tunes(" + c + ", " + t + ", " + n + ", " + d + ")", x.tunes(c, t, n, d), m.tunes(c, t, n, d));
    }

    private void limit(int v) {
        due.is("limit(" + v + ")", x.limit(v), m.limit(v));
    }

    private void text() {
        if (random.nextInt(3) > 0) {
            due.is("clear()", x.clear(), m.clear());
        }
        StringBuilder typed = new StringBuilder();
        int scraps = 1 + random.nextInt(4);
        for (int i = 0; i < scraps; i++) {
            typed.append(SCRAPS[random.nextInt(random.nextInt(3) == 0 ? SCRAPS.length : 9)]);
        }
        for (int i = 0; i < typed.length(); i++) {
            int b = random.nextInt(200) == 0 ? random.nextInt(140) - 5 : typed.charAt(i);
            due.is("type(" + b + ")", x.type(b), m.type(b));
        }
        due.is("does() of " + typed, x.does(), m.does());
    }

    private void ask() {
        int c = chordNumber();
        int t = number(4);
        int what = number(7);
        String row = "(" + c + ", " + t + ", " + what + ")";
        switch (random.nextInt(15)) {
            case 0: due.is("of" + row, x.of(c, t, what), m.of(c, t, what)); break;
            case 1: due.is("root" + row, x.root(c, what), m.root(c, what)); break;
            case 2: due.is("pitch" + row, x.pitch(c, t, what), m.pitch(c, t, what)); break;
            case 3: due.is("tie" + row, x.tie(c, t - 1), m.tie(c, t - 1)); break;
            case 4: due.is("loop" + row, x.loop(c, t, what), m.loop(c, t, what)); break;
            case 5: due.is("part" + row, x.part(t, what - 1), m.part(t, what - 1)); break;
            case 6: due.is("share" + row, x.share(c), m.share(c)); break;
            case 7: due.is("set" + row, x.set(c), m.set(c)); break;
            case 8: due.is("count" + row, x.count(what), m.count(what)); break;
            case 9: case 10: interval(c, t, number(5), what); break;
            case 11: due.is("order" + row, x.order(c, t), m.order(c, t)); break;
            case 12: due.is("voice" + row, x.voice(what - 1, c), m.voice(what - 1, c)); break;
            case 13: due.is("leap" + row, x.leap(what - 1, c), m.leap(what - 1, c)); break;
            default: due.is("told" + row, x.told(what), m.told(what)); break;
        }
    }

    private void interval(int c, int i, int j, int what) {
        due.is("interval(" + c + ", " + i + ", " + j + ", " + what + ")", x.interval(c, i, j, what),
            m.interval(c, i, j, what));
    }
}
