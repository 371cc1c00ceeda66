/** Promises 9 to 13: powers and sizes of tones and roots, ties, loops. */
public final class PitchesTest {
    private static final Due due = new Due();

    public static void main(String[] args) {
        of();
        root();
        pitch();
        tie();
        loop();
        driftEdge();
        due.end();
    }

    private static void of() {
        CommaChoir x = new CommaChoir();
        Choirs.add(x, 63, 50, 64, 1, 1, 64);
        int[] first = {x.of(0, 0, 0), x.of(0, 0, 1), x.of(0, 0, 2), x.of(0, 0, 3), x.of(0, 0, 4)};
        due.are("9: 63 by 50", first, -1, 2, -2, 1, -120000 + 2 * 190196 - 2 * 278631 + 336883);
        due.is("9: 64", x.of(0, 1, 0), 6);
        due.is("9: 1 by 64", x.of(0, 2, 4), -720000);
        due.is("9: what below 0", x.of(0, 0, -1), Due.BAD);
        due.is("9: what too great", x.of(0, 0, 5), Due.BAD);
        due.is("9: no tone", x.of(0, 3, 0), Due.BAD);
        due.is("9: tone below 0", x.of(0, -1, 0), Due.BAD);
        due.is("9: no chord", x.of(1, 0, 0), Due.BAD);
        due.is("9: chord below 0", x.of(-1, 0, 0), Due.BAD);
        due.is("9: counted", x.told(0), 6);
        due.is("9: no state", x.told(4), 4);
    }

    private static void root() {
        CommaChoir x = Choirs.commaPump();
        int[] last = new int[7];
        for (int what = 0; what <= 6; what++) {
            last[what] = x.root(4, what);
            due.is("10: the first", x.root(0, what), 0);
        }
        due.are("10: 20 by 81", last, 2, -4, 1, 0, -242153, -2153, 0);
        x.frees(3);
        due.is("10: a part of its own", x.root(4, 6), 1);
        due.is("10: begins at 0", x.root(4, 1), 0);
        due.is("10: what below 0", x.root(0, -1), Due.BAD);
        due.is("10: what too great", x.root(0, 7), Due.BAD);
        due.is("10: no chord", x.root(5, 0), Due.BAD);
        due.is("10: chord below 0", x.root(-1, 0), Due.BAD);
    }

    private static void pitch() {
        CommaChoir x = Choirs.commaPump();
        int[] got = new int[6];
        for (int what = 0; what <= 5; what++) {
            got[what] = x.pitch(4, 1, what);
        }
        due.are("11: 20 by 81 times 5 by 4", got, 0, -4, 2, 0, -203522, -203522 + 2153);
        due.is("11: a chord inside", x.pitch(1, 2, 5), -31565 + 70196 + 539);
        due.is("11: the first has no set", x.pitch(0, 2, 5), 70196);
        due.is("11: what below 0", x.pitch(0, 0, -1), Due.BAD);
        due.is("11: what too great", x.pitch(0, 0, 6), Due.BAD);
        due.is("11: no tone", x.pitch(0, 3, 0), Due.BAD);
        due.is("11: tone below 0", x.pitch(0, -1, 0), Due.BAD);
        due.is("11: no chord", x.pitch(5, 0, 0), Due.BAD);
        due.is("11: chord below 0", x.pitch(-1, 0, 0), Due.BAD);
    }

    private static void tie() {
        CommaChoir x = Choirs.commaPump();
        due.is("12: held", x.tie(1, 0), 0);
        due.is("12: as", x.tie(1, 1), 2);
        x.frees(1);
        due.is("12: free 0", x.tie(1, 0), Due.NONE);
        due.is("12: free 1", x.tie(1, 1), Due.NONE);
        due.is("12: free is not refused", x.told(0) + x.told(1), 0);
        due.is("12: the last", x.tie(4, 1), Due.NO);
        due.is("12: the last, wrong what", x.tie(4, 2), Due.BAD);
        due.is("12: what below 0", x.tie(0, -1), Due.BAD);
        due.is("12: what too great", x.tie(0, 2), Due.BAD);
        due.is("12: no chord", x.tie(5, 0), Due.BAD);
        due.is("12: chord below 0", x.tie(-1, 0), Due.BAD);
    }

    private static void loop() {
        CommaChoir x = Choirs.commaPump();
        int[] there = new int[5];
        int[] again = new int[5];
        for (int what = 0; what <= 4; what++) {
            there[what] = x.loop(1, 4, what);
            again[what] = x.loop(4, 1, what);
            due.is("13: of one chord", x.loop(2, 2, what), 0);
        }
        due.are("13: 8 by 27", there, 3, -3, 0, 0, 29412);
        due.are("13: 27 by 8", again, -3, 3, 0, 0, -29412);
        x.frees(2);
        due.is("13: two parts", x.loop(2, 3, 0), Due.NO);
        due.is("13: two parts, wrong what", x.loop(2, 3, 5), Due.BAD);
        due.is("13: within the second", x.loop(3, 4, 1), -1);
        due.is("13: what below 0", x.loop(0, 0, -1), Due.BAD);
        due.is("13: no a", x.loop(5, 0, 0), Due.BAD);
        due.is("13: no b", x.loop(0, 5, 0), Due.BAD);
        due.is("13: a below 0", x.loop(-1, 0, 0), Due.BAD);
        due.is("13: b below 0", x.loop(0, -1, 0), Due.BAD);
    }

    /** A root just between two octaves: 3 to 16, 5 to 4, 7 to -20, and the same turned round. */
    private static void driftEdge() {
        CommaChoir x = new CommaChoir();
        for (int c = 0; c <= 7; c++) {
            Choirs.add(x, 27, 49, 49, 1, 25, 1, 1, 25, 3, 1);
        }
        for (int c = 0; c < 5; c++) {
            x.holds(c, 0, 1);
        }
        x.holds(5, 2, 3);
        x.tunes(7, 0, 1, 1);
        x.holds(6, 4, 0);
        int[] powers = {x.root(7, 0), x.root(7, 1), x.root(7, 2), x.root(7, 3)};
        due.are("10: between octaves", powers, 0, 16, 4, -20);
        due.is("10: its size", x.root(7, 4), -2580000);
        due.is("10: of two alike the lesser", x.root(7, 5), 60000);
        due.is("13: there", x.loop(0, 7, 4), 60000);
        due.is("13: and turned round", x.loop(7, 0, 4), 60000);
        x.limit(9999);
        due.is("15: 60000 by 7, cut, and 1 more", x.share(2), -8572);
        due.is("15: 60000 by 7, cut", x.share(3), -8571);
        due.is("14: no rest", x.part(0, 3), 0);
    }
}
