/** Boundary cases of promises 14 to 17, and of how drift is spread. */
final class EdgesOfParts {
    private static final String TERMS = "Terms";

    // with eleven ties: drift 1, 10, 11, 12, and turned round -1, -10, -11, -12
    private static final int[][] ONE = {{25, 25, 25, 25, 25, 25, 25, 25, 25, 25, 5, 49, 49, 49},
        {27, 27, 27, 27, 3}};
    private static final int[][] TEN = {{25}, {27, 27, 27, 27, 27, 27, 27, 27, 27, 27, 27, 27, 3}};
    private static final int[][] ELEVEN = {{27, 27, 27, 27, 27, 9},
        {25, 25, 25, 25, 25, 49, 49, 49, 49, 49, 49, 49, 49, 7}};
    private static final int[][] TWELVE = {{25, 25, 25, 25, 25, 45, 9}, {49, 49, 49, 49, 49, 7}};

    private EdgesOfParts() {
    }

    static void all(Edges edges) {
        spread(edges);
        limit(edges);
        rest(edges);
        part(edges);
        share(edges);
        set(edges);
        count(edges);
    }

    private static int[] shares(CommaChoir x) {
        int[] got = new int[x.count(0) - 1];
        for (int c = 0; c < got.length; c++) {
            got[c] = x.share(c);
        }
        return got;
    }

    /** A choir of eleven ties with the drift of the row, or of the row turned round. */
    private static CommaChoir eleven(int[][] row, boolean turned) {
        return turned ? Choirs.path(11, row[1], row[0]) : Choirs.path(11, row[0], row[1]);
    }

    // ---- spread

    private static void spread(Edges edges) {
        edges.of(TERMS, "of e the size by m, cut;", "fewer than ties: 0, and the first alone 1 more", due -> {
            CommaChoir x = eleven(ONE, false);
            due.is("drift", x.part(0, 2), 1);
            due.are("shares", shares(x), -1, 0, 0, 0, 0, 0, 0, 0, 0, 0, 0);
            CommaChoir y = eleven(ONE, true);
            due.is("drift", y.part(0, 2), -1);
            due.are("turned round", shares(y), 1, 0, 0, 0, 0, 0, 0, 0, 0, 0, 0);
        });
        edges.of(TERMS, "of e the size by m, cut;", "as many as ties: 1 each", due -> {
            CommaChoir x = eleven(ELEVEN, false);
            due.is("drift", x.part(0, 2), 11);
            due.are("shares", shares(x), -1, -1, -1, -1, -1, -1, -1, -1, -1, -1, -1);
        });
        edges.of(TERMS, "of e the size by m, cut;", "the size: alike below 0", due -> {
            CommaChoir x = eleven(ELEVEN, true);
            due.is("drift", x.part(0, 2), -11);
            due.are("shares", shares(x), 1, 1, 1, 1, 1, 1, 1, 1, 1, 1, 1);
            CommaChoir y = eleven(TEN, true);
            due.is("drift", y.part(0, 2), -10);
            due.are("cut towards 0", shares(y), 1, 1, 1, 1, 1, 1, 1, 1, 1, 1, 0);
        });
        edges.of(TERMS, "the first of them, as many as are left over, 1 more;", "all but one", due -> {
            CommaChoir x = eleven(TEN, false);
            due.is("drift", x.part(0, 2), 10);
            due.are("shares", shares(x), -1, -1, -1, -1, -1, -1, -1, -1, -1, -1, 0);
            due.is("no rest", x.part(0, 3), 0);
        });
        edges.of(TERMS, "the first of them, as many as are left over, 1 more;", "one alone", due -> {
            CommaChoir x = eleven(TWELVE, false);
            due.is("drift", x.part(0, 2), 12);
            due.are("shares", shares(x), -2, -1, -1, -1, -1, -1, -1, -1, -1, -1, -1);
            CommaChoir y = eleven(TWELVE, true);
            due.are("turned round", shares(y), 2, 1, 1, 1, 1, 1, 1, 1, 1, 1, 1);
        });
        edges.of(TERMS, "the first of them, as many as are left over, 1 more;", "none, of one tie", due -> {
            CommaChoir x = Choirs.path(1, new int[] {64}, new int[] {63});
            x.limit(9999);
            due.is("one tie gets all", x.share(0), -2725);
        });
        edges.of(TERMS, "the first of them, as many as are left over, 1 more;", "of the part, not of the choir", due -> {
            CommaChoir x = Choirs.commaPump();
            Choirs.add(x, 1, 1, 64, 63);
            Choirs.add(x, 1, 1, 1, 1);
            Choirs.add(x, 1, 1, 1, 1);
            x.holds(5, 1, 0);
            x.holds(6, 0, 1);
            int[] got = {x.share(0), x.share(1), x.share(5), x.share(6)};
            due.are("shares of two parts", got, 539, 538, -1363, -1362);
        });
        edges.of(TERMS, "with the sign turned (so they bring the DRIFT nearer to 0)", "drift 60000, -59999", due -> {
            int[] above = {27, 25, 27, 25, 27, 1, 27, 1, 27, 3};
            int[] below = {49, 49, 49, 49, 49, 49, 49, 49, 49, 49};
            CommaChoir x = Choirs.path(8, above, below);
            x.limit(9999);
            due.are("of 60000", shares(x), -7500, -7500, -7500, -7500, -7500, -7500, -7500, -7500);
            int[] fives = {25, 25, 25, 25, 25, 25, 25, 25, 25, 25, 25, 25, 27, 5};
            int[] sevens = {49, 1, 49, 1, 49, 1, 49, 1, 49, 1, 49, 1, 49, 1};
            CommaChoir y = Choirs.path(8, fives, sevens);
            y.limit(9999);
            due.is("drift", y.part(0, 2), -59999);
            due.are("of -59999", shares(y), 7500, 7500, 7500, 7500, 7500, 7500, 7500, 7499);
        });
        edges.of(TERMS, "with the sign turned (so they bring the DRIFT nearer to 0)", "no drift", due -> {
            CommaChoir x = Choirs.whole();
            due.are("shares", shares(x), 0, 0, 0, 0, 0, 0, 0, 0, 0, 0, 0);
        });
    }

    // ---- limit

    private static void limit(Edges edges) {
        String words = "each LIMIT at most;";
        edges.of(TERMS, words, "as great as the greatest share", due -> {
            CommaChoir x = Choirs.commaPump();
            x.limit(539);
            due.are("shares", shares(x), 539, 538, 538, 538);
            due.is("no rest", x.part(0, 3), 0);
        });
        edges.of(TERMS, words, "1 less: the 1 more is lost", due -> {
            CommaChoir x = Choirs.commaPump();
            x.limit(538);
            due.are("shares", shares(x), 538, 538, 538, 538);
            due.is("rest", x.part(0, 3), -1);
        });
        edges.of(TERMS, words, "2 less: all are cut", due -> {
            CommaChoir x = Choirs.commaPump();
            x.limit(537);
            due.are("shares", shares(x), 537, 537, 537, 537);
            due.is("rest", x.part(0, 3), -5);
        });
        edges.of(TERMS, words, "0", due -> {
            CommaChoir x = Choirs.commaPump();
            x.limit(0);
            due.are("shares", shares(x), 0, 0, 0, 0);
            due.is("rest", x.part(0, 3), -2153);
        });
        edges.of(TERMS, words, "1", due -> {
            CommaChoir x = eleven(TWELVE, false);
            x.limit(1);
            due.are("shares", shares(x), -1, -1, -1, -1, -1, -1, -1, -1, -1, -1, -1);
            due.is("rest", x.part(0, 3), 1);
        });
        edges.of(TERMS, words, "9999 of 60000 by five", due -> {
            CommaChoir x = Choirs.path(5, new int[] {27, 25, 27, 25, 27, 1, 27, 1, 27, 3},
                new int[] {49, 49, 49, 49, 49, 49, 49, 49, 49, 49});
            x.limit(9999);
            due.are("shares", shares(x), -9999, -9999, -9999, -9999, -9999);
            due.is("rest", x.part(0, 3), 10005);
        });
        edges.of(TERMS, words, "2000 at first", due -> {
            CommaChoir x = Choirs.path(1, new int[] {64}, new int[] {63});
            due.is("share", x.share(0), -2000);
            due.is("rest", x.part(0, 3), 725);
        });
    }

    // ---- rest

    private static void rest(Edges edges) {
        String words = "(m 0: no SHARES, REST 0.)";
        edges.of(TERMS, words, "one chord", due -> {
            CommaChoir x = new CommaChoir();
            Choirs.add(x, 64, 63);
            due.is("rest", x.part(0, 3), 0);
            due.is("drift", x.part(0, 2), 0);
            due.is("share", x.share(0), Due.NO);
            due.is("greatest share", x.count(5), 0);
        });
        edges.of(TERMS, words, "twelve parts", due -> {
            CommaChoir x = Choirs.twelveChords();
            for (int p = 0; p < 12; p++) {
                due.is("rest of " + p, x.part(p, 3), 0);
            }
        });
        edges.of(TERMS, words, "a part that lost its ties", due -> {
            CommaChoir x = Choirs.path(1, new int[] {64}, new int[] {63});
            due.is("rest of a tie", x.part(0, 3), 725);
            x.frees(0);
            due.is("rest of the first", x.part(0, 3), 0);
            due.is("rest of the second", x.part(1, 3), 0);
            due.is("greatest share", x.count(5), 0);
        });
    }

    // ---- promise 14

    private static void part(Edges edges) {
        edges.range("Promise 14", "BAD.", "p of part", (x, a) -> x.part(a[0], a[1]), new int[] {0, 0}, 0, 0, 0);
        edges.range("Promise 14", "Of PART p: its first CHORD (what 0), CHORDS (1), DRIFT of its last one (2), REST (3).",
            "what of part", (x, a) -> x.part(a[0], a[1]), new int[] {0, 0}, 1, 0, 3);
        edges.of("Promise 14", "BAD.", "as many parts as can be", due -> {
            CommaChoir x = Choirs.twelveChords();
            int[] last = {x.part(11, 0), x.part(11, 1), x.part(11, 2), x.part(11, 3)};
            due.are("the twelfth", last, 11, 1, 0, 0);
            Edges.refuses(due, "the thirteenth", Choirs::twelveChords, y -> y.part(12, 0), Due.BAD);
        });
        edges.of("Promise 14", "BAD.", "no parts", due ->
            Edges.refuses(due, "the first", CommaChoir::new, x -> x.part(0, 0), Due.BAD));
        edges.of("Promise 14", "BAD.", "as few parts as can be", due -> {
            CommaChoir x = Choirs.whole();
            int[] first = {x.part(0, 0), x.part(0, 1), x.part(0, 2), x.part(0, 3)};
            due.are("the first", first, 0, 12, 0, 0);
            Edges.refuses(due, "the second", Choirs::whole, y -> y.part(1, 0), Due.BAD);
        });
        edges.of("Promise 14", "BAD.", "a part that is no more", due -> {
            CommaChoir x = Choirs.commaPump();
            x.frees(0);
            due.is("two parts", x.part(1, 1), 4);
            x.holds(0, 0, 1);
            due.is("one part", x.part(1, 1), Due.BAD);
        });
    }

    // ---- promise 15

    private static void share(Edges edges) {
        String words = "BAD; NO: c is the last one, they are FREE.";
        edges.range("Promise 15", words, "c of share", (x, a) -> x.share(a[0]), new int[] {0}, 0, 0, 4);
        edges.of("Promise 15", words, "the last one", due -> {
            Edges.refuses(due, "of five", Choirs::ready, x -> x.share(4), Due.NO);
            Edges.refuses(due, "of twelve", Choirs::whole, x -> x.share(11), Due.NO);
            due.is("the one ahead", Choirs.whole().share(10), 0);
        });
        edges.of("Promise 15", words, "free", due -> {
            Edges.refuses(due, "never tied", Choirs::twelveChords, x -> x.share(0), Due.NO);
            CommaChoir x = Choirs.commaPump();
            x.frees(3);
            due.is("freed", x.share(3), Due.NO);
            due.is("still tied", x.share(2), 2000);
        });
    }

    // ---- promise 16

    private static void set(Edges edges) {
        edges.range("Promise 16", "BAD.", "c of set", (x, a) -> x.set(a[0]), new int[] {0}, 0, 0, 4);
        edges.of(TERMS, "all SHARES of the TIES of its PART ahead of it, together", "0 where a part begins", due -> {
            CommaChoir x = Choirs.commaPump();
            int[] one = {x.set(0), x.set(1), x.set(2), x.set(3), x.set(4)};
            due.are("one part", one, 0, 539, 1077, 1615, 2153);
            x.frees(2);
            int[] two = {x.set(0), x.set(1), x.set(2), x.set(3), x.set(4)};
            due.are("two parts", two, 0, -2000, -4000, 0, -2000);
            x.frees(3);
            due.is("one chord", x.set(4), 0);
        });
        edges.of(TERMS, "all SHARES of the TIES of its PART ahead of it, together", "after eleven ties", due -> {
            CommaChoir x = eleven(TEN, false);
            due.is("ahead of the tie without", x.set(10), -10);
            due.is("behind it", x.set(11), -10);
            CommaChoir y = eleven(ELEVEN, true);
            due.is("behind eleven", y.set(11), 11);
        });
    }

    // ---- promise 17

    private static int[] counts(CommaChoir x) {
        return new int[] {x.count(0), x.count(1), x.count(2), x.count(3), x.count(4), x.count(5)};
    }

    private static void count(Edges edges) {
        edges.range("Promise 17", "BAD.", "what of count", (x, a) -> x.count(a[0]), new int[] {0}, 0, 0, 5);
        edges.of("Promise 17", "CHORDS (what 0), PARTS (1), TIES (2), TONES of all (3)", "none", due ->
            due.are("empty", counts(new CommaChoir()), 0, 0, 0, 0, 2000, 0));
        edges.of("Promise 17", "CHORDS (what 0), PARTS (1), TIES (2), TONES of all (3)", "the most", due -> {
            due.are("all tied", counts(Choirs.whole()), 12, 1, 11, 60, 2000, 0);
            CommaChoir x = Choirs.twelveChords();
            due.are("all free", counts(x), 12, 12, 0, 0, 2000, 0);
        });
        edges.of("Promise 17", "the size of the greatest SHARE (5)", "of the first part or of the last", due -> {
            CommaChoir x = new CommaChoir();
            int[] terms = {64, 63, 1, 1};
            Choirs.add(x, terms);
            Choirs.add(x, terms);
            Choirs.add(x, terms);
            Choirs.add(x, terms);
            x.limit(9999);
            x.holds(0, 0, 1);
            due.is("of the first", x.count(5), 2725);
            x.holds(2, 1, 1);
            due.is("the last has less", x.count(5), 2725);
            x.holds(0, 1, 1);
            due.is("none", x.count(5), 0);
            x.holds(2, 1, 0);
            due.is("of the last", x.count(5), 2725);
            due.is("which is above 0", x.share(2), 2725);
        });
        edges.of("Promise 17", "the size of the greatest SHARE (5)", "at the limit", due -> {
            CommaChoir x = Choirs.path(1, new int[] {7}, new int[] {5});
            due.is("2000", x.count(5), 2000);
            x.limit(9999);
            due.is("9999", x.count(5), 9999);
            x.limit(0);
            due.is("0", x.count(5), 0);
        });
    }
}
