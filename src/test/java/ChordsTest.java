/** Promises 1 to 8: a new object, and the calls that change chords, tones, ties and the limit. */
public final class ChordsTest {
    private static final Due due = new Due();

    public static void main(String[] args) {
        newObject();
        chord();
        tone();
        toneTerms();
        tunes();
        holds();
        frees();
        drops();
        limit();
        due.end();
    }

    private static void newObject() {
        CommaChoir x = new CommaChoir();
        int[] counts = {x.count(0), x.count(1), x.count(2), x.count(3), x.count(4), x.count(5)};
        due.are("1: count of a new one", counts, 0, 0, 0, 0, 2000, 0);
        int[] tolds = {x.told(0), x.told(1), x.told(2), x.told(3), x.told(4)};
        due.are("1: told of a new one", tolds, 0, 0, 0, 0, 0);
        long h = 1775;
        int[] row = {0, 0, 0, 0, 0, 0, 0, 0, 0, 2000, 0};
        for (int v : row) {
            h = 31 * h + v;
        }
        due.is("1: digest of a new one", x.digest(), h);
        CommaChoir y = new CommaChoir();
        x.chord();
        due.is("1: objects are apart", y.count(0), 0);
    }

    private static void chord() {
        CommaChoir x = new CommaChoir();
        for (int c = 0; c < 12; c++) {
            due.is("2: chord", x.chord(), c);
        }
        due.is("2: no tones", x.count(3), 0);
        due.is("2: free from the one ahead", x.tie(10, 0), Due.NONE);
        due.is("2: parts", x.count(1), 12);
        due.is("2: the thirteenth", x.chord(), Due.FULL);
        due.is("2: counted", x.told(2), 1);
        due.is("2: nothing changed", x.count(0), 12);
        due.is("2: states", x.told(4), 5);
    }

    private static void tone() {
        CommaChoir x = new CommaChoir();
        due.is("3: no chord", x.tone(0, 1, 1), Due.BAD);
        due.is("3: no state", x.told(4), 0);
        x.chord();
        x.chord();
        for (int t = 0; t < 5; t++) {
            due.is("3: tone", x.tone(0, t + 1 == 5 ? 64 : t + 1, 63), t);
        }
        due.is("3: of the other chord", x.tone(1, 49, 48), 0);
        due.is("3: the sixth", x.tone(0, 1, 1), Due.FULL);
        due.is("3: the sixth, of a wrong ratio", x.tone(0, 11, 1), Due.BAD);
        due.is("3: chord below 0", x.tone(-1, 1, 1), Due.BAD);
        due.is("3: chord too great", x.tone(2, 1, 1), Due.BAD);
        due.is("3: all tones", x.count(3), 6);
        due.is("3: ratio written", x.of(0, 4, 0), 6);
        due.is("3: ratio below", x.of(0, 4, 1), -2);
    }

    private static void toneTerms() {
        int[] wrong = {Integer.MIN_VALUE, -1, 0, 11, 13, 17, 22, 26, 33, 34, 37, 39, 44, 46, 51, 52, 55,
            61, 62, 65, 66, 70, 72, 128, Integer.MAX_VALUE};
        int[] right = {1, 2, 3, 4, 5, 6, 7, 8, 9, 10, 12, 14, 15, 16, 18, 20, 21, 24, 25, 27, 28, 30, 32,
            35, 36, 40, 42, 45, 48, 49, 50, 54, 56, 60, 63, 64};
        CommaChoir x = new CommaChoir();
        x.chord();
        x.tone(0, 1, 1);
        for (int term : wrong) {
            due.is("3: n " + term, x.tone(0, term, 1), Due.BAD);
            due.is("3: d " + term, x.tone(0, 1, term), Due.BAD);
            due.is("4: n " + term, x.tunes(0, 0, term, 1), Due.BAD);
            due.is("4: d " + term, x.tunes(0, 0, 1, term), Due.BAD);
        }
        due.is("3: all counted", x.told(0), 4 * wrong.length);
        for (int term : right) {
            due.is("4: n " + term, x.tunes(0, 0, term, 1), 0);
            due.is("4: d " + term, x.tunes(0, 0, 1, term), 0);
            int[] powers = {x.of(0, 0, 0), x.of(0, 0, 1), x.of(0, 0, 2), x.of(0, 0, 3)};
            due.are("4: powers of 1 by " + term, powers, -power(term, 2), -power(term, 3),
                -power(term, 5), -power(term, 7));
        }
        CommaChoir y = new CommaChoir();
        y.chord();
        due.is("3: the greatest", y.tone(0, 64, 64), 0);
        due.is("3: which is 1", y.of(0, 0, 4), 0);
    }

    private static int power(int n, int prime) {
        return n % prime == 0 ? 1 + power(n / prime, prime) : 0;
    }

    private static void tunes() {
        CommaChoir x = Choirs.commaPump();
        due.is("4: of no tie", x.tunes(1, 1, 6, 5), 1);
        due.is("4: of one tie", x.tunes(0, 0, 1, 1), 1);
        due.is("4: none", x.tunes(0, 1, 5, 4), 0);
        due.is("4: held on", x.tunes(1, 0, 1, 1), 1);
        x.holds(1, 1, 2);
        due.is("4: of both ties", x.tunes(1, 1, 5, 4), 2);
        due.is("4: the root follows", x.root(1, 4), 2 * 120000 - 278631);
        due.is("4: the number of the tone alone is not enough", x.tunes(4, 0, 1, 1), 0);
        due.is("4: the last chord", x.tunes(4, 2, 3, 2), 1);
        due.is("4: no such chord", x.tunes(5, 0, 1, 1), Due.BAD);
        due.is("4: chord below 0", x.tunes(-1, 0, 1, 1), Due.BAD);
        due.is("4: no such tone", x.tunes(0, 3, 1, 1), Due.BAD);
        due.is("4: tone below 0", x.tunes(0, -1, 1, 1), Due.BAD);
        due.is("4: it stays", x.of(0, 1, 2), 1);
        x.frees(1);
        due.is("4: the tie is gone", x.tunes(1, 1, 5, 4), 1);
        CommaChoir y = new CommaChoir();
        Choirs.add(y, 3, 2);
        due.is("4: a state each", y.told(4), 2);
        due.is("4: the same ratio", y.tunes(0, 0, 3, 2), 0);
        due.is("4: leaves a state, too", y.told(4), 3);
    }

    private static void holds() {
        CommaChoir x = new CommaChoir();
        due.is("5: no chord", x.holds(0, 0, 0), Due.BAD);
        Choirs.add(x, 1, 1, 3, 2);
        due.is("5: the last, wrong i", x.holds(0, 2, 0), Due.BAD);
        due.is("5: the last", x.holds(0, 1, 7), Due.NO);
        due.is("5: the last, j below 0", x.holds(0, 1, -1), Due.NO);
        Choirs.add(x, 1, 1);
        due.is("5: wrong j", x.holds(0, 1, 1), Due.BAD);
        due.is("5: j below 0", x.holds(0, 1, -1), Due.BAD);
        due.is("5: i below 0", x.holds(0, -1, 0), Due.BAD);
        due.is("5: c below 0", x.holds(-1, 0, 0), Due.BAD);
        due.is("5: still free", x.tie(0, 0), Due.NONE);
        due.is("5: anew", x.holds(0, 1, 0), 0);
        due.is("5: root", x.root(1, 4), 70196);
        due.is("5: another", x.holds(0, 0, 0), 1);
        due.is("5: root moves", x.root(1, 4), 0);
        due.is("5: one part", x.count(1), 1);
        due.is("5: one tie", x.count(2), 1);
        due.is("5: refused", x.told(0), 6);
        due.is("5: NO", x.told(1), 2);
    }

    private static void frees() {
        CommaChoir x = Choirs.commaPump();
        due.is("6: a tie", x.frees(1), 1);
        due.is("6: none", x.frees(1), 0);
        due.is("6: parts", x.count(1), 2);
        due.is("6: root", x.root(2, 4), 0);
        due.is("6: the tie ahead stays", x.tie(0, 1), 1);
        due.is("6: the last", x.frees(4), Due.NO);
        due.is("6: too great", x.frees(5), Due.BAD);
        due.is("6: below 0", x.frees(-1), Due.BAD);
        due.is("6: without chords", new CommaChoir().frees(0), Due.BAD);
    }

    private static void drops() {
        CommaChoir x = Choirs.commaPump();
        due.is("7: left", x.drops(), 4);
        due.is("7: the tie went", x.count(2), 3);
        due.is("7: the last one now", x.tie(3, 0), Due.NO);
        due.is("7: a new one", x.chord(), 4);
        due.is("7: is free", x.tie(3, 0), Due.NONE);
        due.is("7: has no tones", x.tunes(4, 0, 1, 1), Due.BAD);
        for (int left = 4; left >= 1; left--) {
            due.is("7: down", x.drops(), left);
        }
        due.is("7: the second anew", x.chord(), 1);
        due.is("7: is free, too", x.tie(0, 0), Due.NONE);
        for (int left = 1; left >= 0; left--) {
            due.is("7: down", x.drops(), left);
        }
        due.is("7: none", x.drops(), Due.NO);
        due.is("7: no tones", x.count(3), 0);
        due.is("7: no parts", x.count(1), 0);
        due.is("7: back", x.back(), 4);
        due.is("7: brought back", x.count(0), 1);
    }

    private static void limit() {
        CommaChoir x = Choirs.commaPump();
        due.is("8: what it was", x.limit(0), 2000);
        due.is("8: no shares", x.count(5), 0);
        due.is("8: all rests", x.part(0, 3), x.part(0, 2));
        due.is("8: below 0", x.limit(-1), Due.BAD);
        due.is("8: too great", x.limit(10000), Due.BAD);
        due.is("8: greatest", x.limit(9999), 0);
        due.is("8: again", x.limit(9999), 9999);
        due.is("8: count", x.count(4), 9999);
        due.is("8: states", x.told(4), 5);
        x.back();
        x.back();
        due.is("8: back", x.count(4), 0);
        x.back();
        due.is("8: back to the first", x.count(4), 2000);
    }
}
