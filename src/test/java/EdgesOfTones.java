import java.util.ArrayList;
import java.util.List;

/** Boundary cases of promises 18 to 21: intervals, order, voices, leaps. */
final class EdgesOfTones {
    private static final String TERMS = "Terms";
    private static final int[] RIGHT = {1, 2, 3, 4, 5, 6, 7, 8, 9, 10, 12, 14, 15, 16, 18, 20, 21, 24, 25, 27, 28, 30,
        32, 35, 36, 40, 42, 45, 48, 49, 50, 54, 56, 60, 63, 64};

    private EdgesOfTones() {
    }

    static void all(Edges edges) {
        interval(edges);
        meeting(edges);
        off(edges);
        order(edges);
        voice(edges);
        leap(edges);
    }

    private static CommaChoir oneChord(int... terms) {
        CommaChoir x = new CommaChoir();
        Choirs.add(x, terms);
        return x;
    }

    // ---- promise 18

    private static void interval(Edges edges) {
        String words = "BAD: alike, too.";
        Edges.Call interval = (x, a) -> x.interval(a[0], a[1], a[2], a[3]);
        int[] right = {0, 1, 0, 0};
        edges.range("Promise 18", words, "c of interval", interval, right, 0, 0, 4);
        edges.range("Promise 18", words, "i of interval", interval, new int[] {0, 0, 1, 0}, 1, 0, 2);
        edges.range("Promise 18", words, "j of interval", interval, right, 2, 0, 2);
        edges.range("Promise 18", words, "what of interval", interval, right, 3, 0, 4);
        edges.of("Promise 18", words, "the same tone twice", due -> {
            for (int what = 0; what <= 4; what++) {
                int asked = what;
                Edges.refuses(due, "first", Choirs::ready, x -> x.interval(0, 0, 0, asked), Due.BAD);
                Edges.refuses(due, "last", Choirs::whole, x -> x.interval(11, 4, 4, asked), Due.BAD);
            }
        });
        edges.of("Promise 18", words, "one tone alone, none", due -> {
            Edges.refuses(due, "one", () -> oneChord(3, 2), x -> x.interval(0, 0, 1, 0), Due.BAD);
            Edges.refuses(due, "none", Choirs::twelveChords, x -> x.interval(0, 0, 1, 0), Due.BAD);
        });
        edges.of(TERMS, "RATIO j by RATIO i in lowest terms, above and below", "like ratios", due -> {
            CommaChoir x = oneChord(6, 4, 3, 2);
            int[] got = {x.interval(0, 0, 1, 0), x.interval(0, 0, 1, 1), x.interval(0, 0, 1, 2), x.interval(0, 0, 1, 3),
                x.interval(0, 0, 1, 4)};
            due.are("1 by 1", got, 1, 1, 0, 0, 1);
        });
        edges.of(TERMS, "RATIO j by RATIO i in lowest terms, above and below", "the greatest terms", due -> {
            CommaChoir x = oneChord(64, 1, 1, 64, 63, 64, 64, 63);
            int[] got = {x.interval(0, 1, 0, 0), x.interval(0, 1, 0, 1), x.interval(0, 0, 1, 0), x.interval(0, 0, 1, 1),
                x.interval(0, 2, 3, 0), x.interval(0, 2, 3, 1), x.interval(0, 3, 2, 0), x.interval(0, 3, 2, 1)};
            due.are("terms", got, 4096, 1, 1, 4096, 4096, 3969, 3969, 4096);
            due.is("size up", x.interval(0, 1, 0, 2), 1440000);
            due.is("size down", x.interval(0, 0, 1, 2), -1440000);
        });
        edges.of(TERMS, "RATIO j by RATIO i in lowest terms, above and below", "each prime cancelled", due -> {
            CommaChoir x = oneChord(42, 60, 60, 42, 35, 54, 1, 1);
            int[] got = {x.interval(0, 3, 0, 0), x.interval(0, 3, 0, 1), x.interval(0, 0, 1, 0), x.interval(0, 0, 1, 1),
                x.interval(0, 1, 2, 0), x.interval(0, 1, 2, 1)};
            due.are("terms", got, 7, 10, 100, 49, 49, 108);
        });
    }

    // ---- where they meet

    private static void meeting(Edges edges) {
        String words = "above times below, if both are 16 at most";
        edges.of(TERMS, words, "16 above and below", due -> {
            due.is("16 by 15", meet(16, 15), 240);
            due.is("15 by 16", meet(15, 16), 240);
            due.is("16 by 1", meet(16, 1), 16);
            due.is("1 by 16", meet(1, 16), 16);
        });
        edges.of(TERMS, words, "18, the next one, above or below", due -> {
            due.is("18 by 1", meet(18, 1), Due.NONE);
            due.is("1 by 18", meet(1, 18), Due.NONE);
            due.is("18 by 7", meet(18, 7), Due.NONE);
            due.is("7 by 18", meet(7, 18), Due.NONE);
            due.is("64 by 63", meet(64, 63), Due.NONE);
        });
        edges.of(TERMS, words, "in lowest terms", due -> {
            due.is("64 by 60", meet(64, 60), 240);
            due.is("36 by 2", meet(36, 2), Due.NONE);
            due.is("64 by 64", meet(64, 64), 1);
            due.is("32 by 2", meet(32, 2), 16);
        });
        edges.of("Promise 18", "the partial in which they MEET (4; NONE)", "NONE is not refused", due -> {
            CommaChoir x = oneChord(1, 1, 18, 1);
            due.is("none", x.interval(0, 0, 1, 4), Due.NONE);
            due.are("how often refused", Edges.refusals(x), 0, 0, 0);
        });
        edges.of("Promise 18", "the partial in which they MEET (4; NONE)", "every ratio", due -> {
            for (int n : RIGHT) {
                CommaChoir x = oneChord(1, 1, 1, 1);
                for (int d : RIGHT) {
                    x.tunes(0, 1, n, d);
                    int above = n / common(n, d);
                    int below = d / common(n, d);
                    int meets = above <= 16 && below <= 16 ? above * below : Due.NONE;
                    due.is(n + " by " + d, x.interval(0, 0, 1, 4), meets);
                    due.is(d + " by " + n, x.interval(0, 1, 0, 4), meets);
                }
            }
        });
    }

    private static int meet(int n, int d) {
        return oneChord(1, 1, n, d).interval(0, 0, 1, 4);
    }

    private static int common(int a, int b) {
        return b == 0 ? a : common(b, a % b);
    }

    // ---- off

    /** The ratios allowed bring 4952 at most, so that two alike (5000) can't come up. */
    private static void off(Edges edges) {
        String words = "(of two alike the lesser): -4999 to 5000";
        edges.of(TERMS, words, "the farthest above and below", due -> {
            CommaChoir x = oneChord(21, 10, 50, 49);
            due.is("size down", x.interval(0, 0, 1, 2), -124952);
            due.is("off down", x.interval(0, 0, 1, 3), -4952);
            due.is("size up", x.interval(0, 1, 0, 2), 124952);
            due.is("off up", x.interval(0, 1, 0, 3), 4952);
        });
        edges.of(TERMS, words, "on both sides of the middle, and none", due -> {
            due.is("11 steps and a half", oneChord(1, 1, 35, 18).interval(0, 0, 1, 3), -4878);
            due.is("half a step", oneChord(1, 1, 36, 35).interval(0, 0, 1, 3), 4878);
            due.is("an octave", oneChord(1, 1, 2, 1).interval(0, 0, 1, 3), 0);
            due.is("12 octaves down", oneChord(64, 1, 1, 64).interval(0, 0, 1, 3), 0);
        });
        edges.of(TERMS, words, "every interval of two ratios", EdgesOfTones::everyOff);
    }

    private static void everyOff(Due due) {
        List<int[]> ratios = new ArrayList<>();
        for (int n : RIGHT) {
            for (int d : RIGHT) {
                if (common(n, d) == 1) {
                    ratios.add(new int[] {n, d});
                }
            }
        }
        due.is("ratios", ratios.size(), 449);
        for (int[] low : ratios) {
            CommaChoir x = oneChord(low[0], low[1], 1, 1);
            for (int k = 0; k < ratios.size(); k++) {
                if (k % 150 == 0) {
                    x = oneChord(low[0], low[1], 1, 1);
                }
                x.tunes(0, 1, ratios.get(k)[0], ratios.get(k)[1]);
                int size = x.interval(0, 0, 1, 2);
                due.is("off of " + size, x.interval(0, 0, 1, 3), nearest(size));
            }
        }
    }

    private static int nearest(int size) {
        int best = size;
        for (int k = -145; k <= 145; k++) {
            if (Math.abs(size - 10000 * k) < Math.abs(best)) {
                best = size - 10000 * k;
            }
        }
        return best;
    }

    // ---- promise 19

    private static int[] orders(CommaChoir x, int c, int tones) {
        int[] got = new int[tones];
        for (int k = 0; k < tones; k++) {
            got[k] = x.order(c, k);
        }
        return got;
    }

    private static void order(Edges edges) {
        String words = "BAD: not so many, too.";
        edges.range("Promise 19", words, "c of order", (x, a) -> x.order(a[0], a[1]), new int[] {0, 0}, 0, 0, 4);
        edges.range("Promise 19", words, "k of order", (x, a) -> x.order(a[0], a[1]), new int[] {0, 0}, 1, 0, 2);
        edges.of("Promise 19", words, "none, one, five", due -> {
            Edges.refuses(due, "none", Choirs::twelveChords, x -> x.order(0, 0), Due.BAD);
            Edges.refuses(due, "one", () -> oneChord(1, 1), x -> x.order(0, 1), Due.BAD);
            Edges.refuses(due, "five", Choirs::whole, x -> x.order(11, 5), Due.BAD);
            due.is("the fifth", Choirs.whole().order(11, 4), 4);
        });
        edges.of("Promise 19", words, "by the tones of this chord alone", due -> {
            CommaChoir x = oneChord(1, 1);
            Choirs.add(x, 2, 1, 1, 1);
            due.is("the second of one", x.order(0, 1), Due.BAD);
            due.is("the second of two", x.order(1, 1), 0);
        });
        edges.of(TERMS, "the least first, of like ones the lesser number", "all alike", due -> {
            due.are("1 by 1", orders(oneChord(1, 1, 2, 2, 64, 64, 7, 7, 1, 1), 0, 5), 0, 1, 2, 3, 4);
        });
        edges.of(TERMS, "the least first, of like ones the lesser number", "two alike, apart", due -> {
            due.are("3 by 2", orders(oneChord(6, 4, 1, 1, 3, 2, 2, 1, 12, 8), 0, 5), 1, 0, 2, 4, 3);
        });
        edges.of(TERMS, "the least first, of like ones the lesser number", "turned round, by a hair", due -> {
            due.are("down", orders(oneChord(64, 1, 2, 1, 1, 1, 1, 2, 1, 64), 0, 5), 4, 3, 2, 1, 0);
            due.are("64 by 63, 63 by 64", orders(oneChord(64, 63, 63, 64, 1, 1), 0, 3), 1, 2, 0);
        });
    }

    // ---- promise 20

    private static void voice(Edges edges) {
        edges.range("Promise 20", "TONE of VOICE v (0 .. 4) in CHORD c", "v of voice", (x, a) -> x.voice(a[0], a[1]),
            new int[] {0, 0}, 0, 0, 4);
        edges.range("Promise 20", "NONE. BAD.", "c of voice", (x, a) -> x.voice(a[0], a[1]), new int[] {0, 0}, 1, 0, 4);
        edges.of(TERMS, "in each CHORD the v-th TONE by ORDER (the last one, if there are fewer;", "one, two, five", due -> {
            CommaChoir one = oneChord(3, 2);
            CommaChoir two = oneChord(3, 2, 1, 1);
            CommaChoir five = oneChord(5, 1, 4, 1, 3, 1, 2, 1, 1, 1);
            for (int v = 0; v <= 4; v++) {
                due.is("of one " + v, one.voice(v, 0), 0);
                due.is("of two " + v, two.voice(v, 0), v == 0 ? 1 : 0);
                due.is("of five " + v, five.voice(v, 0), 4 - v);
            }
        });
        edges.of(TERMS, "none in a CHORD without TONES)", "every voice", due -> {
            CommaChoir x = Choirs.twelveChords();
            for (int v = 0; v <= 4; v++) {
                due.is("voice " + v, x.voice(v, 11), Due.NONE);
            }
        });
        edges.of("Promise 20", "NONE. BAD.", "NONE is not refused", due -> {
            CommaChoir x = Choirs.twelveChords();
            x.voice(0, 0);
            due.are("how often refused", Edges.refusals(x), 0, 0, 0);
        });
        edges.of("Promise 20", "NONE. BAD.", "BAD in a chord without tones, too", due -> {
            Edges.refuses(due, "v too great", Choirs::twelveChords, x -> x.voice(5, 0), Due.BAD);
            Edges.refuses(due, "v below 0", Choirs::twelveChords, x -> x.voice(-1, 0), Due.BAD);
            Edges.refuses(due, "no chord", Choirs::twelveChords, x -> x.voice(0, 12), Due.BAD);
        });
    }

    // ---- promise 21

    private static void leap(Edges edges) {
        String words = "NONE. BAD: c is 0, too.";
        edges.range("Promise 21", words, "v of leap", (x, a) -> x.leap(a[0], a[1]), new int[] {0, 1}, 0, 0, 4);
        edges.range("Promise 21", words, "c of leap", (x, a) -> x.leap(a[0], a[1]), new int[] {0, 1}, 1, 1, 4);
        edges.of(TERMS, "LEAP at a CHORD (not 0)", "0 is BAD, tones or none", due -> {
            Edges.refuses(due, "with tones", Choirs::whole, x -> x.leap(0, 0), Due.BAD);
            Edges.refuses(due, "without", Choirs::twelveChords, x -> x.leap(0, 0), Due.BAD);
            Edges.refuses(due, "no chord at all", CommaChoir::new, x -> x.leap(0, 0), Due.BAD);
        });
        edges.of(TERMS, "(none, where one is none, or the CHORD begins a PART)", "without tones here, ahead, in both", due -> {
            CommaChoir x = new CommaChoir();
            Choirs.add(x, 1, 1);
            x.chord();
            x.chord();
            Choirs.add(x, 1, 1);
            int[] got = {x.leap(0, 1), x.leap(4, 2), x.leap(0, 3)};
            due.are("leaps", got, Due.NONE, Due.NONE, Due.NONE);
        });
        edges.of(TERMS, "(none, where one is none, or the CHORD begins a PART)", "a part begins", due -> {
            CommaChoir x = Choirs.commaPump();
            due.is("tied", x.leap(0, 4), -70196 + 538);
            x.frees(3);
            due.is("freed", x.leap(0, 4), Due.NONE);
            x.holds(3, 0, 2);
            due.is("tied again", x.leap(0, 4), -70196 + 538);
        });
        edges.of("Promise 21", words, "NONE is not refused", due -> {
            CommaChoir x = Choirs.twelveChords();
            x.leap(0, 1);
            due.are("how often refused", Edges.refusals(x), 0, 0, 0);
        });
        edges.of("Promise 21", words, "BAD where a part begins, too", due -> {
            Edges.refuses(due, "v too great", Choirs::twelveChords, x -> x.leap(5, 1), Due.BAD);
            Edges.refuses(due, "no chord", Choirs::twelveChords, x -> x.leap(0, 12), Due.BAD);
        });
        edges.of(TERMS, "the SIZE of PITCH of its TONE there less that of its TONE in the CHORD ahead, with SETS of both",
            "no leap, the farthest leaps", due -> {
                due.is("a held tone", Choirs.whole().leap(4, 11), 0);
                CommaChoir up = Choirs.path(2, new int[] {64, 64, 64}, new int[] {1, 1, 1});
                due.is("64 up", up.leap(0, 1), 720000);
                CommaChoir x = new CommaChoir();
                Choirs.add(x, 64, 1, 1, 64);
                Choirs.add(x, 1, 64, 64, 1);
                x.holds(0, 0, 0);
                due.is("up from the lowest", x.leap(0, 1), 720000 + 720000);
                due.is("up from the highest", x.leap(1, 1), 1440000 + 720000 - 720000);
                x.holds(0, 1, 1);
                due.is("down", x.leap(4, 1), -720000 - 720000);
            });
        edges.of(TERMS, "less that of its TONE in the CHORD ahead, with SETS of both",
            "the set of the one ahead counts", due -> {
                CommaChoir x = Choirs.commaPump();
                due.is("second tie", x.leap(0, 2), -70196 + 538);
                x.limit(0);
                due.is("no sets", x.leap(0, 2), -70196);
            });
    }
}
