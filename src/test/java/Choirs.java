/** Choirs that several tests begin with. */
final class Choirs {
    private Choirs() {
    }

    /** Adds a chord with tones given as n, d, n, d and so on. */
    static void add(CommaChoir x, int... terms) {
        int c = x.chord();
        for (int i = 0; i + 1 < terms.length; i += 2) {
            x.tone(c, terms[i], terms[i + 1]);
        }
    }

    /** C, a minor, d minor, G, C with held tones: down by the comma 80 by 81. */
    static CommaChoir commaPump() {
        CommaChoir x = new CommaChoir();
        add(x, 1, 1, 5, 4, 3, 2);
        add(x, 1, 1, 6, 5, 3, 2);
        add(x, 1, 1, 6, 5, 3, 2);
        add(x, 1, 1, 5, 4, 3, 2);
        add(x, 1, 1, 5, 4, 3, 2);
        x.holds(0, 0, 1);
        x.holds(1, 0, 2);
        x.holds(2, 0, 2);
        x.holds(3, 0, 2);
        return x;
    }

    /** The comma pump, with a text that can be done. */
    static CommaChoir ready() {
        CommaChoir x = commaPump();
        typeAll(x, "l7;c;");
        return x;
    }

    /** As many chords as there can be, without tones. */
    static CommaChoir twelveChords() {
        CommaChoir x = new CommaChoir();
        typeAll(x, "c;".repeat(12));
        x.does();
        return x;
    }

    /** As many chords, tones and ties as there can be, every root the same. */
    static CommaChoir whole() {
        CommaChoir x = new CommaChoir();
        for (int c = 0; c < 12; c++) {
            add(x, 3, 2, 1, 1, 5, 4, 3, 2, 7, 4);
            if (c > 0) {
                x.holds(c - 1, 3, 0);
            }
        }
        return x;
    }

    /**
     * One part of that many ties whose last root is all of above by all of below: each tie takes
     * two of above and two of below, as long as there are some.
     */
    static CommaChoir path(int ties, int[] above, int[] below) {
        CommaChoir x = new CommaChoir();
        for (int c = 0; c <= ties; c++) {
            add(x, at(above, 2 * c), at(below, 2 * c), at(below, 2 * c - 1), at(above, 2 * c - 1));
            if (c > 0) {
                x.holds(c - 1, 0, 1);
            }
        }
        return x;
    }

    private static int at(int[] row, int place) {
        return place >= 0 && place < row.length ? row[place] : 1;
    }

    /** One part: each row n, d, n, d is a tie, the ratio held and the ratio it is held as. */
    static CommaChoir chain(int[][] ties) {
        CommaChoir x = new CommaChoir();
        for (int c = 0; c <= ties.length; c++) {
            add(x, 1, 1, 1, 1);
            if (c > 0) {
                x.tunes(c - 1, 0, ties[c - 1][0], ties[c - 1][1]);
                x.tunes(c, 1, ties[c - 1][2], ties[c - 1][3]);
                x.holds(c - 1, 0, 1);
            }
        }
        return x;
    }

    static void typeAll(CommaChoir x, String text) {
        x.clear();
        for (int i = 0; i < text.length(); i++) {
            x.type(text.charAt(i));
        }
    }

    static int doesText(CommaChoir x, String text) {
        typeAll(x, text);
        return x.does();
    }
}
