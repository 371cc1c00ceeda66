/** Promises 18 to 21: intervals, the order of tones, voices and their leaps. */
public final class TonesTest {
    private static final Due due = new Due();

    public static void main(String[] args) {
        interval();
        meeting();
        order();
        voice();
        leap();
        due.end();
    }

    private static int[] intervalRow(CommaChoir x, int i, int j) {
        int[] got = new int[5];
        for (int what = 0; what <= 4; what++) {
            got[what] = x.interval(0, i, j, what);
        }
        return got;
    }

    private static void interval() {
        CommaChoir x = new CommaChoir();
        Choirs.add(x, 5, 4, 3, 2, 64, 1, 1, 64, 10, 8);
        due.are("18: 6 by 5", intervalRow(x, 0, 1), 6, 5, 31565, 1565, 30);
        due.are("18: 5 by 6", intervalRow(x, 1, 0), 5, 6, -31565, -1565, 30);
        due.are("18: 4096", intervalRow(x, 3, 2), 4096, 1, 1440000, 0, Due.NONE);
        due.are("18: 1 by 4096", intervalRow(x, 2, 3), 1, 4096, -1440000, 0, Due.NONE);
        due.are("18: alike ratios", intervalRow(x, 0, 4), 1, 1, 0, 0, 1);
        due.is("18: alike tones", x.interval(0, 1, 1, 0), Due.BAD);
        due.is("18: what below 0", x.interval(0, 0, 1, -1), Due.BAD);
        due.is("18: what too great", x.interval(0, 0, 1, 5), Due.BAD);
        due.is("18: no i", x.interval(0, 5, 1, 0), Due.BAD);
        due.is("18: no j", x.interval(0, 1, 5, 0), Due.BAD);
        due.is("18: i below 0", x.interval(0, -1, 1, 0), Due.BAD);
        due.is("18: j below 0", x.interval(0, 1, -1, 0), Due.BAD);
        due.is("18: no chord", x.interval(1, 0, 1, 0), Due.BAD);
        due.is("18: chord below 0", x.interval(-1, 0, 1, 0), Due.BAD);
        due.is("18: NONE is not refused", x.told(0), 9);
        x.tunes(0, 0, 49, 27);
        x.tunes(0, 1, 25, 64);
        due.are("18: 675 by 3136", intervalRow(x, 0, 1), 675, 3136,
            2 * 278631 - 720000 - 2 * 336883 + 3 * 190196, 4084, Due.NONE);
    }

    private static void meeting() {
        CommaChoir x = new CommaChoir();
        Choirs.add(x, 1, 1, 16, 15);
        due.is("18: 16 by 15", x.interval(0, 0, 1, 4), 240);
        due.is("18: 15 by 16", x.interval(0, 1, 0, 4), 240);
        x.tunes(0, 1, 18, 1);
        due.is("18: above 18", x.interval(0, 0, 1, 4), Due.NONE);
        due.is("18: below 18", x.interval(0, 1, 0, 4), Due.NONE);
        x.tunes(0, 1, 16, 1);
        due.is("18: above 16", x.interval(0, 0, 1, 4), 16);
        x.tunes(0, 1, 32, 28);
        due.is("18: 8 by 7 in lowest terms", x.interval(0, 0, 1, 4), 56);
    }

    private static void order() {
        CommaChoir x = new CommaChoir();
        Choirs.add(x, 2, 1, 3, 2, 1, 64, 6, 4, 64, 1);
        int[] got = {x.order(0, 0), x.order(0, 1), x.order(0, 2), x.order(0, 3), x.order(0, 4)};
        due.are("19: of like ones the lesser", got, 2, 1, 3, 0, 4);
        x.tunes(0, 1, 7, 4);
        int[] then = {x.order(0, 0), x.order(0, 1), x.order(0, 2), x.order(0, 3), x.order(0, 4)};
        due.are("19: tuned anew", then, 2, 3, 1, 0, 4);
        due.is("19: not so many", x.order(0, 5), Due.BAD);
        due.is("19: below 0", x.order(0, -1), Due.BAD);
        due.is("19: no chord", x.order(1, 0), Due.BAD);
        due.is("19: chord below 0", x.order(-1, 0), Due.BAD);
        x.chord();
        due.is("19: without tones", x.order(1, 0), Due.BAD);
    }

    private static void voice() {
        CommaChoir x = new CommaChoir();
        Choirs.add(x, 2, 1, 1, 1, 3, 2);
        int[] got = {x.voice(0, 0), x.voice(1, 0), x.voice(2, 0), x.voice(3, 0), x.voice(4, 0)};
        due.are("20: the last for those above", got, 1, 2, 0, 0, 0);
        x.chord();
        due.is("20: none", x.voice(0, 1), Due.NONE);
        due.is("20: none above", x.voice(4, 1), Due.NONE);
        due.is("20: v below 0", x.voice(-1, 0), Due.BAD);
        due.is("20: v too great", x.voice(5, 0), Due.BAD);
        due.is("20: no chord", x.voice(0, 2), Due.BAD);
        due.is("20: chord below 0", x.voice(0, -1), Due.BAD);
        due.is("20: NONE is not refused", x.told(0), 4);
    }

    private static void leap() {
        CommaChoir x = Choirs.commaPump();
        due.is("21: voice 0", x.leap(0, 1), -31565 + 539);
        due.is("21: voice 1", x.leap(1, 1), -38631 + 539);
        due.is("21: voice 2 at 4", x.leap(2, 4), -70196 + 538);
        due.is("21: the last for those above", x.leap(4, 4), -70196 + 538);
        x.frees(1);
        due.is("21: begins a part", x.leap(0, 2), Due.NONE);
        due.is("21: set of both", x.leap(0, 4), -70196 + 2000);
        due.is("21: at 0", x.leap(0, 0), Due.BAD);
        due.is("21: no chord", x.leap(0, 5), Due.BAD);
        due.is("21: chord below 0", x.leap(0, -1), Due.BAD);
        due.is("21: v below 0", x.leap(-1, 1), Due.BAD);
        due.is("21: v too great", x.leap(5, 1), Due.BAD);
        x.chord();
        due.is("21: no tone there", x.leap(0, 5), Due.NONE);
        CommaChoir y = new CommaChoir();
        Choirs.add(y, 2, 1, 3, 2);
        Choirs.add(y, 1, 1, 5, 4, 7, 4);
        y.holds(0, 1, 0);
        due.is("21: another tone of the same voice", y.leap(0, 1), 2000);
        due.is("21: one of three, one of two", y.leap(2, 1), 70196 + 336883 - 240000 + 2000 - 120000);
        x.chord();
        due.is("21: none on both sides", x.leap(4, 6), Due.NONE);
        due.is("21: NONE is not refused", x.told(0), 5);
    }
}
