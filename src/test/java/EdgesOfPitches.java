import java.util.Arrays;

/** Boundary cases of promises 9 to 13, and of roots and their drift. */
final class EdgesOfPitches {
    private static final String TERMS = "Terms";

    private EdgesOfPitches() {
    }

    static void all(Edges edges) {
        of(edges);
        root(edges);
        drift(edges);
        pitch(edges);
        tie(edges);
        loop(edges);
    }

    // ---- promise 9

    private static void of(Edges edges) {
        Edges.Call of = (x, a) -> x.of(a[0], a[1], a[2]);
        int[] right = {0, 0, 0};
        edges.range("Promise 9", "BAD.", "c of of", of, right, 0, 0, 4);
        edges.range("Promise 9", "BAD.", "t of of", of, right, 1, 0, 2);
        edges.range("Promise 9", "(what 0 to 3)", "what of of", of, right, 2, 0, 4);
        edges.of("Promise 9", "BAD.", "a chord without tones, one with five", due -> {
            Edges.refuses(due, "no tones", Choirs::twelveChords, x -> x.of(11, 0, 0), Due.BAD);
            Edges.refuses(due, "five tones", Choirs::whole, x -> x.of(11, 5, 0), Due.BAD);
            due.is("the fifth", Choirs.whole().of(11, 4, 3), 1);
        });
    }

    // ---- promise 10

    private static void root(Edges edges) {
        Edges.Call root = (x, a) -> x.root(a[0], a[1]);
        edges.range("Promise 10", "BAD.", "c of root", root, new int[] {0, 0}, 0, 0, 4);
        edges.range("Promise 10", "POWER (what 0 to 3) of ROOT of CHORD c, its SIZE (4), its DRIFT (5), the number of its PART (6, 0 on).",
            "what of root", root, new int[] {0, 0}, 1, 0, 6);
        edges.of("Promise 10", "(6, 0 on)", "twelve parts, one part", due -> {
            CommaChoir x = Choirs.twelveChords();
            CommaChoir y = Choirs.whole();
            for (int c = 0; c < 12; c++) {
                due.is("all free " + c, x.root(c, 6), c);
                due.is("all tied " + c, y.root(c, 6), 0);
            }
        });
        edges.of(TERMS, "the ROOT of the next one is the ROOT of c times RATIO i by RATIO j there", "the farthest up and down",
            EdgesOfPitches::farthestRoots);
    }

    private static int[] row(int length, int term) {
        int[] row = new int[length];
        Arrays.fill(row, term);
        return row;
    }

    private static void farthestRoots(Due due) {
        CommaChoir up = Choirs.path(11, row(22, 64), row(22, 1));
        due.is("2 up", up.root(11, 0), 132);
        due.is("size up", up.root(11, 4), 15840000);
        due.is("no drift", up.root(11, 5), 0);
        CommaChoir down = Choirs.path(11, row(22, 1), row(22, 64));
        due.is("2 down", down.root(11, 0), -132);
        due.is("size down", down.root(11, 4), -15840000);
        int[][] others = {{27, 1, 66, 190196}, {25, 2, 44, 278631}, {49, 3, 44, 336883}};
        for (int[] other : others) {
            CommaChoir x = Choirs.path(11, row(22, other[0]), row(22, 1));
            due.is(other[0] + " up", x.root(11, other[1]), other[2]);
            due.is(other[0] + " size", x.root(11, 4), other[2] * other[3]);
            CommaChoir y = Choirs.path(11, row(22, 1), row(22, other[0]));
            due.is(other[0] + " down", y.root(11, other[1]), -other[2]);
        }
    }

    // ---- drift

    // 3 to 16, 5 to 4 by 7 to 20: 2580000 below 0, just between two octaves
    private static final int[] HALF_ABOVE = {27, 25, 27, 25, 27, 1, 27, 1, 27, 3};
    private static final int[] HALF_BELOW = {49, 49, 49, 49, 49, 49, 49, 49, 49, 49};
    // 3 to 3, 5 to 25 by 7 to 14: 2820001, one more than just between
    private static final int[] MORE_ABOVE = {25, 25, 25, 25, 25, 25, 25, 25, 25, 25, 25, 25, 27, 5};
    private static final int[] MORE_BELOW = {49, 1, 49, 1, 49, 1, 49, 1, 49, 1, 49, 1, 49, 1};

    private static void drift(Edges edges) {
        String words = "k the whole number with the least distance (of two alike the lesser): from -59999 to 60000.";
        edges.of(TERMS, words, "just between two octaves, the size below 0", due -> {
            CommaChoir x = Choirs.path(5, HALF_ABOVE, HALF_BELOW);
            due.is("size", x.root(5, 4), -2580000);
            due.is("drift", x.root(5, 5), 60000);
        });
        edges.of(TERMS, words, "just between two octaves, the size above 0", due -> {
            CommaChoir x = Choirs.path(5, HALF_BELOW, HALF_ABOVE);
            due.is("size", x.root(5, 4), 2580000);
            due.is("drift", x.root(5, 5), 60000);
        });
        edges.of(TERMS, words, "the least", due -> {
            CommaChoir x = Choirs.path(7, MORE_ABOVE, MORE_BELOW);
            due.is("size", x.root(7, 4), 2820001);
            due.is("drift", x.root(7, 5), -59999);
        });
        edges.of(TERMS, words, "1 less than the greatest", due -> {
            CommaChoir x = Choirs.path(7, MORE_BELOW, MORE_ABOVE);
            due.is("size", x.root(7, 4), -2820001);
            due.is("drift", x.root(7, 5), 59999);
        });
        edges.of(TERMS, words, "whole octaves", due -> {
            for (int n = 1; n <= 64; n *= 2) {
                due.is("up " + n, Choirs.path(1, new int[] {n, n}, new int[] {1, 1}).root(1, 5), 0);
                due.is("down " + n, Choirs.path(1, new int[] {1, 1}, new int[] {n, n}).root(1, 5), 0);
            }
        });
        edges.of(TERMS, words, "on both sides of half an octave", due -> {
            due.is("45 by 32", Choirs.path(1, new int[] {45}, new int[] {32}).root(1, 5), 59023);
            due.is("64 by 45", Choirs.path(1, new int[] {64}, new int[] {45}).root(1, 5), -59023);
            due.is("32 by 45", Choirs.path(1, new int[] {32}, new int[] {45}).root(1, 5), -59023);
            due.is("7 by 5", Choirs.path(1, new int[] {7}, new int[] {5}).root(1, 5), 58252);
            due.is("10 by 7", Choirs.path(1, new int[] {10}, new int[] {7}).root(1, 5), -58252);
        });
    }

    // ---- promise 11

    private static void pitch(Edges edges) {
        Edges.Call pitch = (x, a) -> x.pitch(a[0], a[1], a[2]);
        int[] right = {0, 0, 0};
        edges.range("Promise 11", "BAD.", "c of pitch", pitch, right, 0, 0, 4);
        edges.range("Promise 11", "BAD.", "t of pitch", pitch, right, 1, 0, 2);
        edges.range("Promise 11", "POWER (what 0 to 3) of PITCH of TONE t of CHORD c, its SIZE (4), that and its SET (5).",
            "what of pitch", pitch, right, 2, 0, 5);
        edges.of("Promise 11", "BAD.", "a chord without tones", due ->
            Edges.refuses(due, "no tones", Choirs::twelveChords, x -> x.pitch(11, 0, 0), Due.BAD));
        edges.of(TERMS, "PITCH of a TONE: its ROOT's POWERS and its RATIO's.", "the farthest up and down", due -> {
            CommaChoir up = Choirs.path(11, row(23, 64), row(23, 1));
            due.is("2 up", up.pitch(11, 0, 0), 138);
            due.is("size up", up.pitch(11, 0, 4), 138 * 120000);
            due.is("no set", up.pitch(11, 0, 5), 138 * 120000);
            CommaChoir down = Choirs.path(11, row(23, 1), row(23, 64));
            due.is("2 down", down.pitch(11, 0, 0), -138);
            due.is("size down", down.pitch(11, 0, 5), -138 * 120000);
        });
        edges.of("Promise 11", "that and its SET (5)", "at the first chord of a part none, at the last all", due -> {
            CommaChoir x = Choirs.commaPump();
            due.is("first", x.pitch(0, 0, 5), 0);
            due.is("second", x.pitch(1, 0, 5), -31565 + 539);
            due.is("last", x.pitch(4, 0, 5), -240000);
            x.limit(0);
            due.is("without shares", x.pitch(4, 0, 5), -242153);
        });
    }

    // ---- promise 12

    private static void tie(Edges edges) {
        String words = "NONE: FREE. BAD; NO: c is the last one.";
        Edges.Call tie = (x, a) -> x.tie(a[0], a[1]);
        edges.range("Promise 12", words, "c of tie", tie, new int[] {0, 0}, 0, 0, 4);
        edges.range("Promise 12", words, "what of tie", tie, new int[] {0, 0}, 1, 0, 1);
        edges.of("Promise 12", words, "free is not refused", due -> {
            CommaChoir x = Choirs.commaPump();
            x.frees(3);
            due.is("what 0", x.tie(3, 0), Due.NONE);
            due.is("what 1", x.tie(3, 1), Due.NONE);
            due.are("how often refused", Edges.refusals(x), 0, 0, 0);
        });
        edges.of("Promise 12", words, "the last one", due -> {
            for (int what = 0; what <= 1; what++) {
                int asked = what;
                Edges.refuses(due, "of five", Choirs::ready, x -> x.tie(4, asked), Due.NO);
                Edges.refuses(due, "of twelve", Choirs::whole, x -> x.tie(11, asked), Due.NO);
            }
        });
        edges.of("Promise 12", words, "BAD ahead of NO and of NONE", due -> {
            Edges.refuses(due, "the last one", Choirs::ready, x -> x.tie(4, 2), Due.BAD);
            Edges.refuses(due, "a free one", Choirs::twelveChords, x -> x.tie(0, 2), Due.BAD);
        });
        edges.of("Promise 12", words, "the farthest numbers", due -> {
            CommaChoir x = Choirs.whole();
            x.holds(10, 4, 4);
            due.is("held", x.tie(10, 0), 4);
            due.is("held as", x.tie(10, 1), 4);
        });
    }

    // ---- promise 13

    private static void loop(Edges edges) {
        String words = "BAD; NO: they are not of one PART.";
        Edges.Call loop = (x, a) -> x.loop(a[0], a[1], a[2]);
        int[] right = {0, 0, 0};
        edges.range("Promise 13", words, "a of loop", loop, right, 0, 0, 4);
        edges.range("Promise 13", words, "b of loop", loop, right, 1, 0, 4);
        edges.range("Promise 13", "POWER (what 0 to 3) of ROOT b less that of ROOT a, the DRIFT of that (4).",
            "what of loop", loop, right, 2, 0, 4);
        edges.of("Promise 13", words, "two chords side by side, both ways", due -> {
            Edges.refuses(due, "there", Choirs::twelveChords, x -> x.loop(0, 1, 0), Due.NO);
            Edges.refuses(due, "and back", Choirs::twelveChords, x -> x.loop(11, 10, 4), Due.NO);
            CommaChoir x = Choirs.commaPump();
            x.frees(1);
            int[] got = {x.loop(0, 1, 2), x.loop(1, 2, 2), x.loop(2, 1, 2), x.loop(0, 4, 2), x.loop(2, 4, 1)};
            due.are("of two parts", got, 1, Due.NO, Due.NO, Due.NO, -2);
        });
        edges.of("Promise 13", words, "BAD ahead of NO", due ->
            Edges.refuses(due, "wrong what", Choirs::twelveChords, x -> x.loop(0, 1, 5), Due.BAD));
        edges.of("Promise 13", words, "of one chord alone", due -> {
            CommaChoir x = Choirs.twelveChords();
            for (int what = 0; what <= 4; what++) {
                due.is("what " + what, x.loop(11, 11, what), 0);
            }
        });
        edges.of("Promise 13", "the DRIFT of that (4)", "just between two octaves, both ways", due -> {
            CommaChoir x = Choirs.path(5, HALF_ABOVE, HALF_BELOW);
            due.is("there", x.loop(0, 5, 4), 60000);
            due.is("and back", x.loop(5, 0, 4), 60000);
            CommaChoir y = Choirs.path(7, MORE_ABOVE, MORE_BELOW);
            due.is("1 more", y.loop(0, 7, 4), -59999);
            due.is("1 more, and back", y.loop(7, 0, 4), 59999);
        });
        edges.of("Promise 13", "of ROOT b less that of ROOT a", "not from the first chord", due -> {
            CommaChoir x = Choirs.commaPump();
            due.is("3 of 1 to 4", x.loop(1, 4, 1), -3);
            due.is("3 of 4 to 1", x.loop(4, 1, 1), 3);
            due.is("5 of 1 to 4", x.loop(1, 4, 2), 0);
        });
    }
}
