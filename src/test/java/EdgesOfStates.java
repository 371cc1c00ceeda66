import java.util.function.Supplier;
import java.util.function.ToIntFunction;

/** Boundary cases of promises 25 to 27, of states and of refusals. */
final class EdgesOfStates {
    private static final String TERMS = "Terms";

    private EdgesOfStates() {
    }

    static void all(Edges edges) {
        states(edges);
        lostStates(edges);
        back(edges);
        refusals(edges);
        firstOf(edges);
        countedByTexts(edges);
        told(edges);
        digest(edges);
    }

    // ---- states

    private static void leaves(Due due, String about, ToIntFunction<CommaChoir> call, int answer) {
        CommaChoir x = new CommaChoir();
        Choirs.doesText(x, "c;t0 1 1;c;t1 1 1;");
        long before = Edges.calm(x);
        due.is(about, call.applyAsInt(x), answer);
        due.is(about + ", states", x.told(4), 2);
        due.is(about + ", back", x.back(), 1);
        due.is(about + ", as before", Edges.calm(x), before);
    }

    private static void states(Edges edges) {
        String words = "each call told S, if it is not refused, leaves one";
        edges.of(TERMS, words, "chord", due -> leaves(due, "chord", CommaChoir::chord, 2));
        edges.of(TERMS, words, "tone", due -> leaves(due, "tone", x -> x.tone(1, 3, 2), 1));
        edges.of(TERMS, words, "tunes", due -> leaves(due, "tunes", x -> x.tunes(1, 0, 3, 2), 0));
        edges.of(TERMS, words, "holds", due -> leaves(due, "holds", x -> x.holds(0, 0, 0), 0));
        edges.of(TERMS, words, "frees", due -> leaves(due, "frees", x -> x.frees(0), 0));
        edges.of(TERMS, words, "drops", due -> leaves(due, "drops", CommaChoir::drops, 1));
        edges.of(TERMS, words, "limit", due -> leaves(due, "limit", x -> x.limit(0), 2000));
        edges.of(TERMS, words, "no getter, no call of the text, no digest", due -> {
            CommaChoir x = Choirs.commaPump();
            x.back();
            int states = x.told(4);
            x.of(0, 0, 0);
            x.root(0, 0);
            x.pitch(0, 0, 0);
            x.tie(0, 0);
            x.loop(0, 0, 0);
            x.part(0, 0);
            x.share(0);
            x.set(0);
            x.count(0);
            x.interval(0, 0, 1, 0);
            x.order(0, 0);
            x.voice(0, 0);
            x.leap(0, 1);
            x.type('c');
            x.clear();
            x.digest();
            due.is("states", x.told(4), states);
        });
        edges.of(TERMS, "also if nothing becomes other by it", "tunes", due -> unchanged(due, x -> x.tunes(0, 0, 1, 1)));
        edges.of(TERMS, "also if nothing becomes other by it", "holds", due -> unchanged(due, x -> x.holds(0, 0, 1)));
        edges.of(TERMS, "also if nothing becomes other by it", "frees", due -> unchanged(due, x -> x.frees(3)));
        edges.of(TERMS, "also if nothing becomes other by it", "limit", due -> unchanged(due, x -> x.limit(2000)));
        edges.of(TERMS, "also if nothing becomes other by it", "does", due -> unchanged(due, CommaChoir::does));
        edges.of(TERMS, "(all but THE TEXT and how often refused)", "they stay", due -> {
            CommaChoir x = new CommaChoir();
            x.chord();
            Choirs.typeAll(x, "l5;");
            x.told(-1);
            x.frees(0);
            for (int i = 0; i < 12; i++) {
                x.chord();
            }
            int[] before = {x.told(0), x.told(1), x.told(2), x.told(3)};
            due.are("told", before, 1, 1, 1, 3);
            x.back();
            int[] after = {x.told(0), x.told(1), x.told(2), x.told(3)};
            due.are("told after", after, 1, 1, 1, 3);
            due.is("the text can be done", x.does(), 1);
            due.is("limit", x.count(4), 5);
        });
    }

    /** The call changes nothing, on a choir that has three states, but leaves a fourth. */
    private static void unchanged(Due due, ToIntFunction<CommaChoir> call) {
        CommaChoir x = Choirs.commaPump();
        Choirs.typeAll(x, "l2000;");
        x.back();
        x.back();
        int states = x.told(4);
        due.is("states ahead", states, 3);
        int[] counts = {x.count(2), x.count(4), x.root(2, 4)};
        call.applyAsInt(x);
        due.is("states", x.told(4), 4);
        due.are("unchanged", new int[] {x.count(2), x.count(4), x.root(2, 4)}, counts);
        due.is("back", x.back(), 3);
        due.are("unchanged still", new int[] {x.count(2), x.count(4), x.root(2, 4)}, counts);
    }

    private static void lostStates(Edges edges) {
        edges.of(TERMS, "5 at most, older ones lost", "five", due -> {
            CommaChoir x = new CommaChoir();
            for (int v = 1; v <= 5; v++) {
                x.limit(v);
                due.is("states", x.told(4), v);
            }
            for (int left = 4; left >= 0; left--) {
                due.is("back", x.back(), left);
                due.is("limit", x.count(4), left == 0 ? 2000 : left);
            }
            due.is("none", x.back(), Due.NO);
        });
        edges.of(TERMS, "5 at most, older ones lost", "six: the oldest is lost", due -> {
            CommaChoir x = new CommaChoir();
            for (int v = 1; v <= 6; v++) {
                x.limit(v);
            }
            due.is("states", x.told(4), 5);
            for (int left = 4; left >= 0; left--) {
                due.is("back", x.back(), left);
                due.is("limit", x.count(4), left + 1);
            }
            due.is("none", x.back(), Due.NO);
            due.is("where it ended", x.count(4), 1);
        });
        edges.of(TERMS, "5 at most, older ones lost", "many, with going back between", due -> {
            CommaChoir x = new CommaChoir();
            for (int v = 1; v <= 400; v++) {
                x.limit(v);
            }
            x.back();
            x.back();
            due.is("limit", x.count(4), 398);
            x.limit(500);
            x.limit(501);
            x.limit(502);
            due.is("states", x.told(4), 5);
            int[] limits = new int[5];
            for (int i = 0; i < 5; i++) {
                x.back();
                limits[i] = x.count(4);
            }
            due.are("limits", limits, 501, 500, 398, 397, 396);
        });
        edges.of(TERMS, "5 at most, older ones lost", "whole choirs come back", due -> {
            CommaChoir x = Choirs.whole();
            for (int left = 11; left >= 7; left--) {
                due.is("drops", x.drops(), left);
            }
            for (int back = 8; back <= 12; back++) {
                x.back();
                int[] counts = {x.count(0), x.count(1), x.count(2), x.count(3)};
                due.are("counts", counts, back, 1, back - 1, 5 * back);
                due.is("the last tone", x.of(back - 1, 4, 3), 1);
            }
        });
    }

    // ---- promise 25

    private static void back(Edges edges) {
        edges.of("Promise 25", "NO: none.", "a new object", due ->
            Edges.refuses(due, "back", CommaChoir::new, CommaChoir::back, Due.NO));
        edges.of("Promise 25", "NO: none.", "all gone back", due -> {
            CommaChoir x = Choirs.ready();
            for (int left = 4; left >= 0; left--) {
                due.is("left", x.back(), left);
            }
            due.is("one more", x.back(), Due.NO);
            due.is("and one more", x.back(), Due.NO);
            due.is("counted", x.told(1), 2);
        });
        edges.of("Promise 25", "NO: none.", "it leaves no state itself", due -> {
            CommaChoir x = new CommaChoir();
            x.chord();
            x.back();
            due.is("states", x.told(4), 0);
            due.is("nothing to go back to", x.back(), Due.NO);
            due.is("no chord", x.count(0), 0);
        });
        edges.of("Promise 25", "A STATE back: how many can be yet.", "of one", due -> {
            CommaChoir x = new CommaChoir();
            x.limit(1);
            due.is("none yet", x.back(), 0);
            due.is("limit", x.count(4), 2000);
        });
    }

    // ---- refusals

    private static void refusals(Edges edges) {
        String words = "Refused (any call, getters, too), changing nothing but how often";
        edges.of(TERMS, words, "BAD by each call", due -> {
            bad(due, "tone", x -> x.tone(5, 1, 1));
            bad(due, "tunes", x -> x.tunes(0, 3, 1, 1));
            bad(due, "holds", x -> x.holds(0, 0, 3));
            bad(due, "frees", x -> x.frees(5));
            bad(due, "limit", x -> x.limit(10000));
            bad(due, "of", x -> x.of(0, 0, 5));
            bad(due, "root", x -> x.root(0, 7));
            bad(due, "pitch", x -> x.pitch(0, 0, 6));
            bad(due, "tie", x -> x.tie(0, 2));
            bad(due, "loop", x -> x.loop(0, 0, 5));
            bad(due, "part", x -> x.part(0, 4));
            bad(due, "share", x -> x.share(5));
            bad(due, "set", x -> x.set(5));
            bad(due, "count", x -> x.count(6));
            bad(due, "interval", x -> x.interval(0, 0, 0, 0));
            bad(due, "order", x -> x.order(0, 3));
            bad(due, "voice", x -> x.voice(5, 0));
            bad(due, "leap", x -> x.leap(0, 0));
            bad(due, "type", x -> x.type(128));
            bad(due, "told", x -> x.told(5));
        });
        edges.of(TERMS, words, "NO by each call", due -> {
            Edges.refuses(due, "holds", Choirs::ready, x -> x.holds(4, 0, 0), Due.NO);
            Edges.refuses(due, "frees", Choirs::ready, x -> x.frees(4), Due.NO);
            Edges.refuses(due, "drops", CommaChoir::new, CommaChoir::drops, Due.NO);
            Edges.refuses(due, "tie", Choirs::ready, x -> x.tie(4, 0), Due.NO);
            Edges.refuses(due, "loop", Choirs::twelveChords, x -> x.loop(0, 11, 0), Due.NO);
            Edges.refuses(due, "share", Choirs::ready, x -> x.share(4), Due.NO);
            Edges.refuses(due, "back", CommaChoir::new, CommaChoir::back, Due.NO);
        });
        edges.of(TERMS, words, "FULL by each call", due -> {
            Edges.refuses(due, "chord", Choirs::whole, CommaChoir::chord, Due.FULL);
            Edges.refuses(due, "tone", Choirs::whole, x -> x.tone(0, 1, 1), Due.FULL);
            Edges.refuses(due, "type", EdgesOfStates::fullText, x -> x.type(0), Due.FULL);
        });
        edges.of(TERMS, words, "none is refused that is right", due -> {
            CommaChoir x = Choirs.whole();
            Choirs.doesText(x, "l5;");
            x.digest();
            due.are("how often refused", Edges.refusals(x), 0, 0, 0);
        });
    }

    private static CommaChoir fullText() {
        CommaChoir x = Choirs.commaPump();
        Choirs.typeAll(x, "l5;".repeat(40));
        return x;
    }

    private static void bad(Due due, String about, ToIntFunction<CommaChoir> call) {
        Edges.refuses(due, about, Choirs::ready, call, Due.BAD);
    }

    private static void firstOf(Edges edges) {
        String words = "the first of: BAD -100000002 a number is not as told; NO -100000003, FULL -100000004 as told.";
        edges.of(TERMS, words, "BAD ahead of FULL", due -> {
            Edges.refuses(due, "tone, n", Choirs::whole, x -> x.tone(0, 11, 1), Due.BAD);
            Edges.refuses(due, "tone, d", Choirs::whole, x -> x.tone(0, 1, 0), Due.BAD);
            Edges.refuses(due, "tone, c", Choirs::whole, x -> x.tone(12, 1, 1), Due.BAD);
            Edges.refuses(due, "type", EdgesOfStates::fullText, x -> x.type(128), Due.BAD);
        });
        edges.of(TERMS, words, "BAD ahead of NO", due -> {
            Edges.refuses(due, "tie", Choirs::ready, x -> x.tie(4, -1), Due.BAD);
            Edges.refuses(due, "loop", Choirs::twelveChords, x -> x.loop(0, 1, -1), Due.BAD);
            Edges.refuses(due, "loop, b", Choirs::twelveChords, x -> x.loop(0, 12, 0), Due.BAD);
            Edges.refuses(due, "holds", Choirs::ready, x -> x.holds(4, 3, 0), Due.BAD);
        });
        edges.of(TERMS, words, "two numbers wrong count once", due -> {
            CommaChoir x = Choirs.commaPump();
            x.of(-1, -1, -1);
            x.interval(9, 9, 9, 9);
            due.is("BAD", x.told(0), 2);
        });
        edges.of(TERMS, words, "the numbers of the answers", due -> {
            CommaChoir x = Choirs.twelveChords();
            int[] got = {x.told(5), x.frees(11), x.chord(), x.tie(0, 0)};
            due.are("answers", got, -100000002, -100000003, -100000004, -100000001);
        });
    }

    private static void countedByTexts(Edges edges) {
        String words = "By does() nothing counts (by type() as by any call).";
        edges.of(TERMS, words, "an order refused by BAD, NO, FULL; a fault", due -> {
            for (String text : new String[] {"f9;", "f4;", "t0 1 1;t0 1 1;t0 1 1;", "c;".repeat(20), "x", ""}) {
                CommaChoir x = Choirs.commaPump();
                due.is("'" + text + "'", Choirs.doesText(x, text) < 0 ? 1 : 0, 1);
                due.are("how often refused", Edges.refusals(x), 0, 0, 0);
            }
        });
        edges.of(TERMS, words, "type counts", due -> {
            CommaChoir x = fullText();
            x.type(-1);
            x.type(0);
            due.are("how often refused", Edges.refusals(x), 1, 0, 1);
        });
    }

    // ---- promise 26

    private static void told(Edges edges) {
        edges.range("Promise 26", "BAD.", "what of told", (x, a) -> x.told(a[0]), new int[] {0}, 0, 0, 4);
        edges.of("Promise 26", "How often refused: BAD (0), NO (1), FULL (2); bytes of THE TEXT (3), STATES (4).",
            "each at 0", due -> {
                CommaChoir x = new CommaChoir();
                for (int what = 0; what <= 4; what++) {
                    due.is("what " + what, x.told(what), 0);
                }
            });
        edges.of("Promise 26", "How often refused: BAD (0), NO (1), FULL (2); bytes of THE TEXT (3), STATES (4).",
            "each apart", due -> {
                CommaChoir x = Choirs.twelveChords();
                x.set(12);
                x.frees(11);
                x.frees(11);
                x.chord();
                x.chord();
                x.chord();
                x.limit(3);
                x.limit(4);
                x.limit(5);
                int[] got = {x.told(0), x.told(1), x.told(2), x.told(3), x.told(4)};
                due.are("told", got, 1, 2, 3, 24, 4);
            });
        edges.of("Promise 26", "BAD.", "told counts itself", due -> {
            CommaChoir x = new CommaChoir();
            x.told(5);
            x.told(-1);
            due.is("BAD", x.told(0), 2);
        });
        edges.of("Promise 26", "bytes of THE TEXT (3), STATES (4)", "the most", due -> {
            CommaChoir x = fullText();
            due.is("bytes", x.told(3), 120);
            due.is("states", x.told(4), 5);
        });
    }

    // ---- promise 27

    private static void digest(Edges edges) {
        String words = "h = 1775; then h = 31 h + v for each v: told(0) to told(4); count(0) to count(5)";
        edges.of("Promise 27", words, "a new object", due -> {
            long h = 1775;
            for (int v : new int[] {0, 0, 0, 0, 0, 0, 0, 0, 0, 2000, 0}) {
                h = 31 * h + v;
            }
            due.is("digest", new CommaChoir().digest(), h);
        });
        edges.of("Promise 27", "of each CHORD root(0) to root(6), set(), of each of its TONES", "chords without tones", due ->
            digestIs(due, Choirs::twelveChords));
        edges.of("Promise 27", "of(0) to of(3), pitch(5), then order() of each; of each TIE tie(0), tie(1), share();",
            "all that there can be", due -> digestIs(due, Choirs::whole));
        edges.of("Promise 27", "of each PART part(0) to part(3)", "parts with ties and without", due ->
            digestIs(due, () -> {
                CommaChoir x = Choirs.commaPump();
                x.frees(0);
                x.frees(2);
                x.chord();
                x.told(9);
                x.drops();
                x.back();
                return x;
            }));
        edges.of("Promise 27", words, "it wraps, refuses nothing, changes nothing", due -> {
            CommaChoir x = Choirs.whole();
            long h = x.digest();
            due.is("again", x.digest(), h);
            due.are("how often refused", Edges.refusals(x), 0, 0, 0);
            due.is("states", x.told(4), 5);
        });
    }

    private static void digestIs(Due due, Supplier<CommaChoir> maker) {
        CommaChoir x = maker.get();
        long digest = x.digest();
        int[] counts = {x.count(0), x.count(1), x.count(2), x.count(3), x.count(4), x.count(5)};
        long h = 1775;
        for (int what = 0; what <= 4; what++) {
            h = 31 * h + x.told(what);
        }
        for (int count : counts) {
            h = 31 * h + count;
        }
        for (int c = 0; c < counts[0]; c++) {
            // a choir of its own for each chord: one alone has not calls enough for all
            h = digestOfChord(h, maker.get(), c);
        }
        CommaChoir y = maker.get();
        for (int c = 0; c + 1 < counts[0]; c++) {
            if (y.tie(c, 0) != Due.NONE) {
                h = 31 * (31 * (31 * h + y.tie(c, 0)) + y.tie(c, 1)) + y.share(c);
            }
        }
        for (int p = 0; p < counts[1]; p++) {
            for (int what = 0; what <= 3; what++) {
                h = 31 * h + y.part(p, what);
            }
        }
        due.is("digest", digest, h);
    }

    private static long digestOfChord(long before, CommaChoir x, int c) {
        long h = before;
        for (int what = 0; what <= 6; what++) {
            h = 31 * h + x.root(c, what);
        }
        h = 31 * h + x.set(c);
        int tones = 0;
        while (x.of(c, tones, 0) != Due.BAD) {
            for (int what = 0; what <= 3; what++) {
                h = 31 * h + x.of(c, tones, what);
            }
            h = 31 * h + x.pitch(c, tones, 5);
            tones++;
        }
        for (int k = 0; k < tones; k++) {
            h = 31 * h + x.order(c, k);
        }
        return h;
    }
}
