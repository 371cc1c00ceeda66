/** Boundary cases of promises 1 to 8, and of the ratios, chords, tones and ties that they stand on. */
final class EdgesOfChords {
    private static final String TERMS = "Terms";

    private EdgesOfChords() {
    }

    static void all(Edges edges) {
        edges.of("What it is", "used for at most 512 calls", "the 512th answers", EdgesOfChords::lastCall);
        edges.of("What it is", "used for at most 512 calls", "the 512th changes", EdgesOfChords::lastChange);
        ratios(edges);
        newObject(edges);
        chord(edges);
        tone(edges);
        tunes(edges);
        holds(edges);
        frees(edges);
        drops(edges);
        limit(edges);
    }

    private static void lastCall(Due due) {
        CommaChoir x = new CommaChoir();
        for (int call = 1; call < 512; call++) {
            due.is("call " + call, x.told(5), Due.BAD);
        }
        due.is("call 512", x.told(0), 511);
    }

    private static void lastChange(Due due) {
        CommaChoir x = new CommaChoir();
        x.chord();
        x.tone(0, 1, 1);
        for (int call = 3; call < 512; call++) {
            due.is("call " + call, x.tunes(0, 0, 1 + call % 2, 1), 0);
        }
        due.is("call 512", x.back(), 4);
    }

    // ---- ratios

    private static void ratios(Edges edges) {
        edges.of("What it is", "A RATIO is n by d (1 ..", "1 is the least", EdgesOfChords::leastTerms);
        edges.of(TERMS, "64 each", "64 is the greatest", EdgesOfChords::greatestTerms);
        edges.of(TERMS, "64 each, both made of 2, 3, 5, 7 alone)", "every number to 130", EdgesOfChords::termsMade);
        edges.of(TERMS, "(whole, perhaps below 0)", "powers", EdgesOfChords::powersBelow);
        edges.of(TERMS, "SIZE of POWERS: 120000 times that of 2", "greatest, least, nearest to 0",
            EdgesOfChords::sizes);
    }

    private static CommaChoir oneTone() {
        CommaChoir x = new CommaChoir();
        Choirs.add(x, 1, 1);
        return x;
    }

    private static void termIs(Due due, int term, boolean right) {
        CommaChoir x = oneTone();
        int answer = right ? 0 : Due.BAD;
        due.is("tunes n " + term, x.tunes(0, 0, term, 1), answer);
        due.is("tunes d " + term, x.tunes(0, 0, 1, term), answer);
        due.is("tone n " + term, x.tone(0, term, 1), right ? 1 : Due.BAD);
        due.is("tone d " + term, x.tone(0, 1, term), right ? 2 : Due.BAD);
    }

    private static void leastTerms(Due due) {
        termIs(due, 1, true);
        for (int term : new int[] {0, -1, -2, -3, -5, -7, -64, Integer.MIN_VALUE}) {
            termIs(due, term, false);
        }
        due.is("1 by 1", oneTone().of(0, 0, 4), 0);
    }

    /** Those above 64 are made of 2, 3, 5, 7 alone: nothing but the bound keeps them out. */
    private static void greatestTerms(Due due) {
        termIs(due, 63, true);
        termIs(due, 64, true);
        for (int term : new int[] {70, 72, 75, 80, 81, 84, 90, 96, 98, 100, 105, 120, 125, 126, 128, 243, 343, 4096,
            1 << 30}) {
            termIs(due, term, false);
        }
    }

    private static void termsMade(Due due) {
        int right = 0;
        for (int term = -10; term <= 130; term++) {
            boolean made = term >= 1 && term <= 64 && isMadeOfPrimes(term);
            termIs(due, term, made);
            right += made ? 1 : 0;
        }
        due.is("so many are right", right, 36);
    }

    private static boolean isMadeOfPrimes(int term) {
        for (int other = 11; other <= term; other++) {
            boolean prime = true;
            for (int k = 2; k < other; k++) {
                prime &= other % k != 0;
            }
            if (prime && term % other == 0) {
                return false;
            }
        }
        return true;
    }

    private static void powersAre(Due due, int n, int d, int... powers) {
        CommaChoir x = oneTone();
        x.tunes(0, 0, n, d);
        int[] got = {x.of(0, 0, 0), x.of(0, 0, 1), x.of(0, 0, 2), x.of(0, 0, 3)};
        due.are(n + " by " + d, got, powers);
    }

    private static void powersBelow(Due due) {
        powersAre(due, 64, 1, 6, 0, 0, 0);
        powersAre(due, 1, 64, -6, 0, 0, 0);
        powersAre(due, 1, 27, 0, -3, 0, 0);
        powersAre(due, 1, 25, 0, 0, -2, 0);
        powersAre(due, 1, 49, 0, 0, 0, -2);
        powersAre(due, 64, 64, 0, 0, 0, 0);
        powersAre(due, 6, 4, -1, 1, 0, 0);
        powersAre(due, 42, 60, -1, 0, -1, 1);
        powersAre(due, 35, 54, -1, -3, 1, 1);
    }

    private static void sizes(Due due) {
        int[][] rows = {{64, 1, 720000}, {1, 64, -720000}, {64, 63, 2725}, {63, 64, -2725}, {63, 63, 0}};
        for (int[] row : rows) {
            CommaChoir x = oneTone();
            x.tunes(0, 0, row[0], row[1]);
            due.is(row[0] + " by " + row[1], x.of(0, 0, 4), row[2]);
        }
    }

    // ---- promise 1

    private static void newObject(Edges edges) {
        edges.of("Promise 1", "As told; no CHORDS.", "counts", due -> {
            CommaChoir x = new CommaChoir();
            int[] counts = {x.count(0), x.count(1), x.count(2), x.count(3), x.count(4), x.count(5)};
            due.are("count", counts, 0, 0, 0, 0, 2000, 0);
            int[] tolds = {x.told(0), x.told(1), x.told(2), x.told(3), x.told(4)};
            due.are("told", tolds, 0, 0, 0, 0, 0);
        });
        edges.of("Promise 1", "As told; no CHORDS.", "no number of a chord is right", due -> {
            CommaChoir x = new CommaChoir();
            int[] got = {x.tone(0, 1, 1), x.tunes(0, 0, 1, 1), x.holds(0, 0, 0), x.frees(0), x.of(0, 0, 0), x.root(0, 0),
                x.pitch(0, 0, 0), x.tie(0, 0), x.loop(0, 0, 0), x.part(0, 0), x.share(0), x.set(0),
                x.interval(0, 0, 1, 0), x.order(0, 0), x.voice(0, 0), x.leap(0, 1)};
            for (int answer : got) {
                due.is("on an empty choir", answer, Due.BAD);
            }
            due.is("all counted", x.told(0), got.length);
        });
        edges.of("Promise 1", "As told; no CHORDS.", "nothing to drop, to do, to go back to", due -> {
            CommaChoir x = new CommaChoir();
            int[] got = {x.drops(), x.back(), x.clear(), x.does()};
            due.are("on an empty choir", got, Due.NO, Due.NO, 0, -10);
        });
    }

    // ---- promise 2

    private static void chord(Edges edges) {
        edges.of(TERMS, "CHORDS 0 on, as they come (never more than 12)", "numbers 0 to 11", due -> {
            CommaChoir x = new CommaChoir();
            for (int c = 0; c < 12; c++) {
                due.is("chord", x.chord(), c);
            }
            due.is("how many", x.count(0), 12);
            due.is("the last one stands", x.tone(11, 64, 63), 0);
        });
        edges.of("Promise 2", "FULL: 12.", "the thirteenth", due ->
            Edges.refuses(due, "chord", Choirs::twelveChords, CommaChoir::chord, Due.FULL));
        edges.of("Promise 2", "FULL: 12.", "the twelfth is not refused", due -> {
            CommaChoir x = Choirs.twelveChords();
            x.drops();
            due.is("the twelfth again", x.chord(), 11);
            due.is("not refused", x.told(2), 0);
            due.is("the thirteenth again", x.chord(), Due.FULL);
        });
        edges.of("Promise 2", "A new CHORD, without TONES, FREE from the one ahead", "in the place of a dropped one",
            EdgesOfChords::chordAnew);
        edges.of("Promise 2", "its number. S.", "a state", due -> {
            CommaChoir x = new CommaChoir();
            x.chord();
            due.is("states", x.told(4), 1);
            due.is("back", x.back(), 0);
            due.is("no chord", x.count(0), 0);
        });
        edges.of(TERMS, "or it is FREE (at first)", "every chord of twelve", due -> {
            CommaChoir x = Choirs.twelveChords();
            for (int c = 0; c < 11; c++) {
                due.is("free " + c, x.tie(c, 0), Due.NONE);
            }
            due.is("ties", x.count(2), 0);
            due.is("parts", x.count(1), 12);
        });
    }

    private static void chordAnew(Due due) {
        CommaChoir x = Choirs.whole();
        x.drops();
        due.is("again", x.chord(), 11);
        due.is("free", x.tie(10, 0), Due.NONE);
        due.is("no tone", x.order(11, 0), Due.BAD);
        due.is("a part of its own", x.root(11, 6), 1);
        due.is("tones of all", x.count(3), 55);
        due.is("its first tone", x.tone(11, 7, 1), 0);
    }

    // ---- promise 3

    private static void tone(Edges edges) {
        Edges.Call tone = (x, a) -> x.tone(a[0], a[1], a[2]);
        int[] right = {0, 1, 1};
        edges.range("Promise 3", "BAD: n, d not so made, too", "c of tone", tone, right, 0, 0, 4);
        edges.range("Promise 3", "BAD: n, d not so made, too", "n of tone", tone, right, 1, 1, 64);
        edges.range("Promise 3", "BAD: n, d not so made, too", "d of tone", tone, right, 2, 1, 64);
        edges.of("Promise 3", "BAD: n, d not so made, too", "within 1 to 64, with another prime", due -> {
            for (int term : new int[] {11, 13, 17, 19, 22, 23, 26, 33, 44, 55, 61, 62}) {
                Edges.refuses(due, "n " + term, Choirs::ready, x -> x.tone(0, term, 1), Due.BAD);
                Edges.refuses(due, "d " + term, Choirs::ready, x -> x.tone(0, 1, term), Due.BAD);
            }
        });
        edges.of(TERMS, "TONES 0 on, as they come (never more than 5)", "numbers 0 to 4", due -> {
            CommaChoir x = new CommaChoir();
            x.chord();
            for (int t = 0; t < 5; t++) {
                due.is("tone", x.tone(0, t + 1, 1), t);
                due.is("tones", x.count(3), t + 1);
            }
            due.is("the last one stands", x.of(0, 4, 2), 1);
        });
        edges.of("Promise 3", "FULL: 5.", "the sixth", due -> {
            Edges.refuses(due, "of the first chord", Choirs::whole, x -> x.tone(0, 1, 1), Due.FULL);
            Edges.refuses(due, "of the last chord", Choirs::whole, x -> x.tone(11, 1, 1), Due.FULL);
        });
        edges.of("Promise 3", "FULL: 5.", "of this chord alone", due -> {
            CommaChoir x = new CommaChoir();
            Choirs.add(x, 1, 1, 2, 1, 3, 1, 4, 1);
            Choirs.add(x, 1, 1);
            due.is("the fifth", x.tone(0, 5, 1), 4);
            due.is("the sixth", x.tone(0, 6, 1), Due.FULL);
            due.is("of the next one", x.tone(1, 6, 1), 1);
        });
        edges.of("Promise 3", "its number. S.", "a state", due -> {
            CommaChoir x = Choirs.twelveChords();
            x.tone(11, 3, 2);
            due.is("states", x.told(4), 2);
            x.back();
            due.is("gone", x.count(3), 0);
            due.is("chords stay", x.count(0), 12);
        });
    }

    // ---- promise 4

    private static void tunes(Edges edges) {
        Edges.Call tunes = (x, a) -> x.tunes(a[0], a[1], a[2], a[3]);
        int[] right = {0, 0, 1, 1};
        edges.range("Promise 4", "BAD.", "c of tunes", tunes, right, 0, 0, 4);
        edges.range("Promise 4", "BAD.", "t of tunes", tunes, right, 1, 0, 2);
        edges.range("Promise 4", "BAD.", "n of tunes", tunes, right, 2, 1, 64);
        edges.range("Promise 4", "BAD.", "d of tunes", tunes, right, 3, 1, 64);
        edges.of("Promise 4", "BAD.", "a chord without tones, a ratio with another prime", due -> {
            Edges.refuses(due, "no tones", Choirs::twelveChords, x -> x.tunes(0, 0, 1, 1), Due.BAD);
            Edges.refuses(due, "n 11", Choirs::ready, x -> x.tunes(0, 0, 11, 1), Due.BAD);
            Edges.refuses(due, "d 22", Choirs::ready, x -> x.tunes(0, 0, 1, 22), Due.BAD);
        });
        edges.of("Promise 4", "BAD.", "never FULL: five tones can be tuned", due -> {
            CommaChoir x = Choirs.whole();
            due.is("the last tone", x.tunes(11, 4, 1, 1), 0);
        });
        edges.of("Promise 4", "how many TIES are of it", "0, 1, 2", EdgesOfChords::tiesOfTone);
        edges.of("Promise 4", "how many TIES are of it. S.", "a state, and what follows goes back, too", due -> {
            CommaChoir x = Choirs.commaPump();
            long before = Edges.calm(x);
            x.back();
            x.holds(3, 0, 2);
            due.is("the same again", Edges.calm(x), before);
            x.tunes(3, 0, 64, 63);
            due.is("the root moves", x.root(4, 4), -242153 + 2725);
            x.back();
            due.is("and back", x.root(4, 4), -242153);
        });
    }

    private static void tiesOfTone(Due due) {
        CommaChoir x = new CommaChoir();
        Choirs.add(x, 1, 1, 1, 1);
        Choirs.add(x, 1, 1, 1, 1);
        Choirs.add(x, 1, 1, 1, 1);
        due.is("all free", x.tunes(1, 0, 1, 1), 0);
        x.holds(0, 1, 0);
        due.is("from the one ahead", x.tunes(1, 0, 1, 1), 1);
        due.is("held in the first", x.tunes(0, 1, 1, 1), 1);
        due.is("the other one of the first", x.tunes(0, 0, 1, 1), 0);
        due.is("the other one", x.tunes(1, 1, 1, 1), 0);
        x.holds(1, 0, 1);
        due.is("of both", x.tunes(1, 0, 1, 1), 2);
        due.is("of none, in the middle", x.tunes(1, 1, 1, 1), 0);
        due.is("in the last", x.tunes(2, 1, 1, 1), 1);
        due.is("the other one of the last", x.tunes(2, 0, 1, 1), 0);
        x.frees(0);
        due.is("to the next", x.tunes(1, 0, 1, 1), 1);
        x.drops();
        due.is("of none again", x.tunes(1, 0, 1, 1), 0);
    }

    // ---- promise 5

    private static void holds(Edges edges) {
        String words = "BAD by c, i; NO: c is the last one; then BAD by j.";
        Edges.Call holds = (x, a) -> x.holds(a[0], a[1], a[2]);
        int[] right = {0, 0, 0};
        edges.range("Promise 5", words, "c of holds", holds, right, 0, 0, 4);
        edges.range("Promise 5", words, "i of holds", holds, right, 1, 0, 2);
        edges.range("Promise 5", words, "j of holds", holds, right, 2, 0, 2);
        edges.of("Promise 5", words, "c is the last one", due -> {
            Edges.refuses(due, "of five", Choirs::ready, x -> x.holds(4, 0, 0), Due.NO);
            Edges.refuses(due, "of twelve", Choirs::whole, x -> x.holds(11, 4, 0), Due.NO);
            Edges.refuses(due, "of one", EdgesOfChords::oneTone, x -> x.holds(0, 0, 0), Due.NO);
        });
        edges.of("Promise 5", words, "BAD by i ahead of NO", due -> {
            Edges.refuses(due, "i too great", Choirs::ready, x -> x.holds(4, 3, 0), Due.BAD);
            Edges.refuses(due, "i below 0", Choirs::ready, x -> x.holds(4, -1, 0), Due.BAD);
            Edges.refuses(due, "no tones", Choirs::twelveChords, x -> x.holds(11, 0, 0), Due.BAD);
        });
        edges.of("Promise 5", words, "NO ahead of BAD by j", due -> {
            for (int j : new int[] {-1, 3, 5, Integer.MIN_VALUE, Integer.MAX_VALUE}) {
                Edges.refuses(due, "j " + j, Choirs::ready, x -> x.holds(4, 0, j), Due.NO);
            }
        });
        edges.of("Promise 5", words, "i by the tones of c, j by those of the next", EdgesOfChords::tonesOfEach);
        edges.of("Promise 5", "1, if there was one, else 0. S.", "none, one, the same, none again", due -> {
            CommaChoir x = new CommaChoir();
            Choirs.add(x, 1, 1);
            Choirs.add(x, 1, 1);
            int[] got = {x.holds(0, 0, 0), x.holds(0, 0, 0), x.frees(0), x.holds(0, 0, 0), x.drops(), x.chord(),
                x.tone(1, 1, 1), x.holds(0, 0, 0)};
            due.are("answers", got, 0, 1, 1, 0, 1, 1, 0, 0);
            due.is("a state", x.back(), 4);
            due.is("free", x.tie(0, 0), Due.NONE);
        });
        edges.of("Promise 5", "1, if there was one, else 0. S.", "another tie in its place, and back", due -> {
            CommaChoir x = Choirs.commaPump();
            due.is("another", x.holds(0, 2, 0), 1);
            int[] there = {x.tie(0, 0), x.tie(0, 1), x.count(2)};
            due.are("tie", there, 2, 0, 4);
            x.back();
            int[] back = {x.tie(0, 0), x.tie(0, 1), x.count(2)};
            due.are("tie as it was", back, 0, 1, 4);
        });
    }

    private static void tonesOfEach(Due due) {
        CommaChoir x = new CommaChoir();
        Choirs.add(x, 1, 1, 2, 1, 3, 1, 4, 1, 5, 1);
        Choirs.add(x, 1, 1, 2, 1);
        x.chord();
        due.is("the last i", x.holds(0, 4, 1), 0);
        due.is("i beyond", x.holds(0, 5, 1), Due.BAD);
        due.is("j that c alone has", x.holds(0, 0, 2), Due.BAD);
        due.is("i that the one ahead alone has", x.holds(1, 2, 0), Due.BAD);
        due.is("the next has no tones", x.holds(1, 1, 0), Due.BAD);
        due.is("held", x.tie(0, 0), 4);
        due.is("held as", x.tie(0, 1), 1);
    }

    // ---- promise 6

    private static void frees(Edges edges) {
        Edges.Call frees = (x, a) -> x.frees(a[0]);
        edges.range("Promise 6", "BAD; NO: c is the last one.", "c of frees", frees, new int[] {0}, 0, 0, 4);
        edges.of("Promise 6", "BAD; NO: c is the last one.", "the last one", due -> {
            Edges.refuses(due, "of five", Choirs::ready, x -> x.frees(4), Due.NO);
            Edges.refuses(due, "of twelve", Choirs::whole, x -> x.frees(11), Due.NO);
            Edges.refuses(due, "of one", EdgesOfChords::oneTone, x -> x.frees(0), Due.NO);
        });
        edges.of("Promise 6", "1, if there was a TIE, else 0. S.", "a tie, none, without tones", due -> {
            CommaChoir x = Choirs.commaPump();
            int[] got = {x.frees(3), x.frees(3), x.frees(0), x.frees(0), x.count(2)};
            due.are("answers", got, 1, 0, 1, 0, 2);
            due.is("chords without tones", Choirs.twelveChords().frees(10), 0);
            due.is("a state", x.back(), 4);
            due.is("which is no other", x.count(2), 2);
            x.back();
            due.is("the tie again", x.tie(0, 1), 1);
        });
        edges.of(TERMS, "A CHORD without a TIE to the one ahead begins a PART; its ROOT is at POWERS 0.",
            "the first one, and one that was freed", due -> {
                // the root of the second is 7 by 30: each prime is in it until it is freed
                CommaChoir x = Choirs.path(2, new int[] {7, 1, 9}, new int[] {10, 3, 8});
                int[] tied = {x.root(1, 0), x.root(1, 1), x.root(1, 2), x.root(1, 3), x.root(1, 6), x.root(2, 6)};
                due.are("tied", tied, -1, -1, -1, 1, 0, 0);
                x.frees(0);
                for (int what = 0; what <= 5; what++) {
                    due.is("the first one " + what, x.root(0, what), 0);
                    due.is("the freed one " + what, x.root(1, what), 0);
                }
                int[] freed = {x.root(0, 6), x.root(1, 6), x.root(2, 6), x.root(2, 4)};
                due.are("behind it", freed, 0, 1, 1, 2 * 190196 - 3 * 120000);
            });
    }

    // ---- promise 7

    private static void drops(Edges edges) {
        edges.of("Promise 7", "NO: there is none.", "no chord yet", due ->
            Edges.refuses(due, "drops", CommaChoir::new, CommaChoir::drops, Due.NO));
        edges.of("Promise 7", "NO: there is none.", "all dropped", due -> {
            CommaChoir x = Choirs.whole();
            for (int left = 11; left >= 0; left--) {
                due.is("left", x.drops(), left);
            }
            due.is("one more", x.drops(), Due.NO);
            due.is("counted", x.told(1), 1);
            due.is("states", x.told(4), 5);
        });
        edges.of("Promise 7", "The last CHORD goes, with its TIE: how many are left. S.", "to one and to none", due -> {
            CommaChoir x = new CommaChoir();
            Choirs.add(x, 3, 2);
            Choirs.add(x, 1, 1);
            x.holds(0, 0, 0);
            due.is("one left", x.drops(), 1);
            int[] counts = {x.count(0), x.count(1), x.count(2), x.count(3)};
            due.are("counts", counts, 1, 1, 0, 1);
            due.is("none left", x.drops(), 0);
            int[] empty = {x.count(0), x.count(1), x.count(2), x.count(3)};
            due.are("counts", empty, 0, 0, 0, 0);
            x.back();
            due.is("back to one", x.count(0), 1);
            x.back();
            due.is("and its tie", x.root(1, 4), 70196);
        });
    }

    // ---- promise 8

    private static void limit(Edges edges) {
        edges.range(TERMS, "LIMIT (0 .. 9999; 2000)", "v of limit", (x, a) -> x.limit(a[0]), new int[] {0}, 0, 0, 9999);
        edges.range("Promise 8", "BAD.", "v of limit", (x, a) -> x.limit(a[0]), new int[] {0}, 0, 0, 9999);
        edges.of(TERMS, "LIMIT (0 .. 9999; 2000)", "2000 at first, then what it was", due -> {
            CommaChoir x = new CommaChoir();
            int[] got = {x.count(4), x.limit(0), x.count(4), x.limit(9999), x.count(4), x.limit(9999), x.limit(1)};
            due.are("limits", got, 2000, 2000, 0, 0, 9999, 9999, 9999);
        });
        edges.of("Promise 8", "LIMIT becomes v: what it was. S.", "a state", due -> {
            CommaChoir x = new CommaChoir();
            x.limit(0);
            x.limit(0);
            due.is("states", x.told(4), 2);
            due.is("back", x.back(), 1);
            due.is("no other", x.count(4), 0);
            x.back();
            due.is("the first one", x.count(4), 2000);
        });
    }
}
