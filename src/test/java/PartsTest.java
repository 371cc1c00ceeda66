/** Promises 14 to 17: parts, how their drift is spread, counts. */
public final class PartsTest {
    private static final Due due = new Due();

    public static void main(String[] args) {
        part();
        share();
        shareLimit();
        shareOfLaterPart();
        allChordsTied();
        leastDrift();
        set();
        count();
        due.end();
    }

    private static int[] partRow(CommaChoir x, int p) {
        return new int[] {x.part(p, 0), x.part(p, 1), x.part(p, 2), x.part(p, 3)};
    }

    private static int[] shares(CommaChoir x, int ties) {
        int[] got = new int[ties];
        for (int c = 0; c < ties; c++) {
            got[c] = x.share(c);
        }
        return got;
    }

    private static void part() {
        CommaChoir x = Choirs.commaPump();
        due.are("14: whole", partRow(x, 0), 0, 5, -2153, 0);
        x.frees(0);
        x.frees(1);
        due.are("14: one chord", partRow(x, 0), 0, 1, 0, 0);
        due.are("14: one chord within", partRow(x, 1), 1, 1, 0, 0);
        due.are("14: the last", partRow(x, 2), 2, 3, -20392, -16392);
        due.is("14: no part", x.part(3, 0), Due.BAD);
        due.is("14: part below 0", x.part(-1, 0), Due.BAD);
        due.is("14: what too great", x.part(0, 4), Due.BAD);
        due.is("14: what below 0", x.part(0, -1), Due.BAD);
        due.is("14: without chords", new CommaChoir().part(0, 0), Due.BAD);
    }

    private static void share() {
        CommaChoir x = Choirs.commaPump();
        due.are("15: the first gets 1 more", shares(x, 4), 539, 538, 538, 538);
        due.is("15: the last chord", x.share(4), Due.NO);
        x.frees(1);
        due.is("15: free", x.share(1), Due.NO);
        due.is("15: of a part of two", x.share(0), 2000);
        due.is("15: no chord", x.share(5), Due.BAD);
        due.is("15: chord below 0", x.share(-1), Due.BAD);
        due.is("15: counted", x.told(1), 2);
    }

    private static void shareLimit() {
        CommaChoir x = Choirs.commaPump();
        x.limit(539);
        due.are("15: limit as great as 1 more", shares(x, 4), 539, 538, 538, 538);
        x.limit(538);
        due.are("15: limit cuts the 1 more", shares(x, 4), 538, 538, 538, 538);
        due.is("14: rest of it", x.part(0, 3), -1);
        x.limit(500);
        due.are("15: limit cuts all", shares(x, 4), 500, 500, 500, 500);
        due.is("14: rest of all", x.part(0, 3), -153);
        x.limit(0);
        due.are("15: limit 0", shares(x, 4), 0, 0, 0, 0);
        due.is("14: rest of nothing", x.part(0, 3), -2153);
        CommaChoir y = new CommaChoir();
        Choirs.add(y, 3, 2);
        Choirs.add(y, 1, 1);
        y.holds(0, 0, 0);
        due.is("15: e is -49804", y.share(0), 2000);
        y.tunes(0, 0, 16, 15);
        y.limit(9999);
        due.is("10: drift above 0", y.root(1, 5), 11173);
        due.is("15: sign turned", y.share(0), -9999);
        due.is("14: rest above 0", y.part(0, 3), 1174);
    }

    /** The comma pump again, with two free chords ahead of it. */
    private static void shareOfLaterPart() {
        CommaChoir x = new CommaChoir();
        Choirs.add(x, 1, 1);
        Choirs.add(x, 1, 1);
        Choirs.add(x, 1, 1, 6, 5);
        Choirs.add(x, 6, 5, 1, 1);
        Choirs.add(x, 3, 2, 1, 1);
        Choirs.add(x, 3, 2, 1, 1);
        x.limit(9999);
        x.holds(2, 0, 0);
        x.holds(3, 1, 0);
        x.holds(4, 1, 0);
        due.is("15: e", x.part(2, 2), -31565 - 70196 - 70196 + 120000);
        x.tunes(5, 0, 4, 3);
        due.is("15: e in steps", x.part(2, 2), -31565 - 70196 - 49804 + 120000);
        x.tunes(4, 0, 64, 63);
        due.is("15: e in small steps", x.part(2, 2), -31565 - 2725 - 49804 + 120000);
        int[] got = {x.share(2), x.share(3), x.share(4), x.set(2), x.set(3), x.set(4), x.set(5)};
        due.are("15: cut at the limit", got, -9999, -9999, -9999, 0, -9999, -19998, -29997);
        x.tunes(3, 0, 1, 1);
        x.tunes(5, 0, 1, 1);
        due.is("15: e of one step", x.part(2, 2), -2725);
        int[] small = {x.share(2), x.share(3), x.share(4)};
        due.are("15: 908 each, 1 left over", small, 909, 908, 908);
        due.is("14: no rest", x.part(2, 3), 0);
        due.is("17: greatest", x.count(5), 909);
        x.limit(908);
        due.is("14: 1 is left", x.part(2, 3), -1);
        x.tunes(4, 0, 1, 1);
        due.is("15: e is 0", x.share(2), 0);
    }

    /** As many chords as there can be, each root the farthest from the one ahead. */
    private static void allChordsTied() {
        CommaChoir x = new CommaChoir();
        for (int c = 0; c < 12; c++) {
            Choirs.add(x, 64, 1, 1, 64);
        }
        for (int c = 0; c < 11; c++) {
            due.is("5: hold", x.holds(c, 0, 1), 0);
        }
        due.is("10: size", x.root(11, 4), 11 * 12 * 120000);
        due.is("14: no drift", x.part(0, 2), 0);
        x.tunes(11, 1, 1, 63);
        due.are("14: drift of 63 by 64", partRow(x, 0), 0, 12, -2725, 0);
        due.is("15: first", x.share(7), 248);
        due.is("15: last", x.share(10), 247);
        due.is("16: all", x.set(11), 2725);
    }

    /** 3 to -13, 5 to 21, 7 to 6 is 1 over 45 octaves; turned round it is 1 under them. */
    private static void leastDrift() {
        int[][] up = {{25, 27, 27, 25}, {25, 27, 27, 25}, {25, 1, 1, 25}, {25, 1, 1, 25}, {25, 1, 1, 25},
            {5, 3, 1, 1}, {49, 1, 1, 49}, {49, 1, 1, 1}};
        CommaChoir x = Choirs.chain(up);
        due.is("10: size", x.root(8, 4), 5400001);
        due.are("14: drift 1", partRow(x, 0), 0, 9, 1, 0);
        due.are("15: the first alone", shares(x, 8), -1, 0, 0, 0, 0, 0, 0, 0);
        int[][] down = new int[up.length][];
        for (int c = 0; c < up.length; c++) {
            down[c] = new int[] {up[c][2], up[c][3], up[c][0], up[c][1]};
        }
        CommaChoir y = Choirs.chain(down);
        due.are("14: drift -1", partRow(y, 0), 0, 9, -1, 0);
        due.are("15: the first alone, turned", shares(y, 8), 1, 0, 0, 0, 0, 0, 0, 0);
        y.limit(0);
        due.are("14: rest -1", partRow(y, 0), 0, 9, -1, -1);
    }

    private static void set() {
        CommaChoir x = Choirs.commaPump();
        int[] sets = {x.set(0), x.set(1), x.set(2), x.set(3), x.set(4)};
        due.are("16: sets", sets, 0, 539, 1077, 1615, 2153);
        x.frees(1);
        int[] freed = {x.set(0), x.set(1), x.set(2), x.set(3), x.set(4)};
        due.are("16: sets of two parts", freed, 0, 2000, 0, 2000, 4000);
        due.is("16: no chord", x.set(5), Due.BAD);
        due.is("16: chord below 0", x.set(-1), Due.BAD);
    }

    private static void count() {
        CommaChoir x = Choirs.commaPump();
        int[] got = {x.count(0), x.count(1), x.count(2), x.count(3), x.count(4), x.count(5)};
        due.are("17: counts", got, 5, 1, 4, 15, 2000, 539);
        x.frees(2);
        x.limit(1999);
        int[] then = {x.count(0), x.count(1), x.count(2), x.count(3), x.count(4), x.count(5)};
        due.are("17: counts of two parts", then, 5, 2, 3, 15, 1999, 1999);
        due.is("17: below 0", x.count(-1), Due.BAD);
        due.is("17: too great", x.count(6), Due.BAD);
        due.is("17: counted", x.told(0), 2);
    }
}
