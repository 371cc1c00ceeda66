/** Promises 22 to 27: the text and its orders, states to go back to, refusals, the digest. */
public final class TextsTest {
    private static final Due due = new Due();

    public static void main(String[] args) {
        type();
        clear();
        faults();
        faultsForgotten();
        doesOrders();
        doesForms();
        doesRefused();
        longText();
        back();
        backOfEachCall();
        told();
        toldOfEachCall();
        digest();
        due.end();
    }

    private static void type() {
        CommaChoir x = new CommaChoir();
        due.is("22: below 0", x.type(-1), Due.BAD);
        due.is("22: too great", x.type(128), Due.BAD);
        for (int i = 1; i <= 120; i++) {
            due.is("22: bytes", x.type(i % 2 == 0 ? 0 : 127), i);
        }
        due.is("22: full", x.type(99), Due.FULL);
        due.is("22: full, wrong byte", x.type(128), Due.BAD);
        due.is("22: counted", x.told(2), 1);
        due.is("22: counted BAD", x.told(0), 3);
        due.is("22: no state", x.told(4), 0);
        due.is("22: told", x.told(3), 120);
    }

    private static void clear() {
        CommaChoir x = new CommaChoir();
        due.is("23: empty", x.clear(), 0);
        Choirs.typeAll(x, "c;c;");
        due.is("23: had", x.clear(), 4);
        due.is("23: now", x.told(3), 0);
        due.is("23: no state", x.told(4), 0);
        due.is("23: nothing left of it", x.does(), -10);
        due.is("23: typed anew", Choirs.doesText(x, "c;"), 1);
    }

    /** Texts with a fault, each with the place of it. */
    private static void faults() {
        Object[][] rows = {
            {"", 0}, {"   ", 3}, {"x", 0}, {";", 0}, {" ;", 1}, {"C;", 0}, {"1", 0}, {"c", 1}, {"c ", 2},
            {"cc;", 1}, {"c1;", 1}, {"c;;", 2}, {"c; 5", 3}, {"c;c", 3}, {"c;x", 2}, {"c;\t", 2},
            {"f;", 1}, {"f ;", 2}, {"f", 1}, {"f0", 2}, {"f0 ", 3}, {"f0 1;", 3}, {"f0f", 2}, {"f00000;", 5},
            {"f12345;", 5}, {"f0000 0;", 6}, {"l1 0;", 3}, {"l-1;", 1}, {"l99999", 5}, {"l", 1}, {"l9", 2},
            {"t;", 1}, {"t0;", 2}, {"t0 1;", 4}, {"t0 1 1", 6}, {"t0 1 1 1;", 7}, {"t011;", 4}, {"t0 11;", 5},
            {"t0,1,1;", 2}, {"t0 1 12345;", 9}, {"t0 12345 1;", 7}, {"h0 0;", 4}, {"h0 0 0", 6},
            {"h0 0 0 0;", 7}, {"h 0 0 0 c;", 8}, {"c;t0 1 1;f0 ", 12}, {"c;t0 1 1;f0 0;", 12},
            {"h0;0;0;", 2}, {"c;\0", 2}, {"c;\177", 2}, {"q 0;", 0}, {"c; d;", 3}, {"t\n0 1 1;", 1},
        };
        for (Object[] row : rows) {
            CommaChoir x = Choirs.commaPump();
            long before = x.digest();
            String text = (String) row[0];
            due.is("24: fault in '" + text + "'", Choirs.doesText(x, text), -10 - (int) row[1]);
            x.clear();
            due.is("24: nothing done by '" + text + "'", x.digest(), before);
        }
    }

    /** A text cut off inside a number or an order leaves nothing for the next reading. */
    private static void faultsForgotten() {
        CommaChoir x = new CommaChoir();
        due.is("24: ends in a number", Choirs.doesText(x, "t0"), -12);
        due.is("24: figure at the start", Choirs.doesText(x, "1 1 1;"), -10);
        due.is("24: wrong in a number", Choirs.doesText(x, "l123x"), -14);
        due.is("24: four figures", Choirs.doesText(x, "l1234;"), 1);
        due.is("24: ends in an order", Choirs.doesText(x, "c;t0 1"), -16);
        due.is("24: as if new", Choirs.doesText(x, "c;"), 1);
        due.is("24: one chord", x.count(0), 1);
    }

    private static void doesOrders() {
        CommaChoir x = new CommaChoir();
        String text = "c;t0 3 2;c;t1 1 1;h0 0 0;l 77;";
        due.is("24: six", Choirs.doesText(x, text), 6);
        due.is("24: one state", x.told(4), 1);
        due.is("24: text stays", x.told(3), text.length());
        due.is("24: chords", x.count(0), 2);
        due.is("24: tied", x.root(1, 4), 70196);
        due.is("24: limit", x.count(4), 77);
        due.is("24: share", x.share(0), 77);
        due.is("24: once more", x.does(), 6);
        due.is("24: chords of both", x.count(0), 4);
        due.is("24: states", x.told(4), 2);
        due.is("24: freed", Choirs.doesText(x, "f0;"), 1);
        due.is("24: root", x.root(1, 4), 0);
        due.is("24: frees what is free", x.does(), 1);
        due.is("24: leaves a state", x.told(4), 4);
        due.is("25: all", x.back(), 3);
        due.is("25: and the tie", x.back(), 2);
        due.is("25: tied", x.root(1, 4), 70196);
        due.is("25: the second text", x.back(), 1);
        due.is("25: chords", x.count(0), 2);
        due.is("25: the first text", x.back(), 0);
        due.is("25: limit", x.count(4), 2000);
    }

    private static void doesForms() {
        CommaChoir x = new CommaChoir();
        due.is("24: blanks all over", Choirs.doesText(x, "  c ; t 0  5   4 ;c;  "), 3);
        due.is("24: tone", x.of(0, 0, 2), 1);
        due.is("24: zeros ahead", Choirs.doesText(x, "t0001 0003 0002;"), 1);
        due.is("24: tone there", x.of(1, 0, 4), 70196);
        due.is("24: hold", Choirs.doesText(x, "h0 0 0;"), 1);
        due.is("24: tie", x.tie(0, 1), 0);
        due.is("24: four figures", Choirs.doesText(x, "l9999;"), 1);
        due.is("24: limit", x.count(4), 9999);
        due.is("24: free", Choirs.doesText(x, "f 0;"), 1);
        due.is("24: no tie", x.count(2), 0);
    }

    private static void doesRefused() {
        Object[][] rows = {
            {"t5 1 1;", 0}, {"t0 11 1;", 0}, {"t0 1 0;", 0}, {"t0 65 1;", 0}, {"t9999 1 1;", 0},
            {"c;t5 1 1;t5 1 11;", 2}, {"h4 0 0;", 0}, {"c;h4 0 0;", 1}, {"c;t5 1 1;h4 0 0;h4 0 1;", 3},
            {"f4;", 0}, {"f5;", 0}, {"c;f4;f5;", 2}, {"l1;l2;c;c;c;c;c;c;c;c;", 9},
            {"t0 1 1;t0 1 1;t0 1 1;", 2}, {"f0;h0 3 0;", 1},
        };
        for (Object[] row : rows) {
            CommaChoir x = Choirs.commaPump();
            long before = x.digest();
            String text = (String) row[0];
            due.is("24: '" + text + "'", Choirs.doesText(x, text), -1000 - (int) row[1]);
            x.clear();
            due.is("24: nothing done by '" + text + "'", x.digest(), before);
        }
        CommaChoir y = new CommaChoir();
        due.is("24: faults come first", Choirs.doesText(y, "f0;x"), -13);
        due.is("24: then the order", Choirs.doesText(y, "c;f0;c;"), -1001);
        due.is("24: nothing counts", y.told(0) + y.told(1) + y.told(2) + y.told(4), 0);
        due.is("24: state of the one that was done", Choirs.doesText(y, "c;"), 1);
        due.is("25: back", y.back(), 0);
        due.is("25: nothing there", y.count(0), 0);
    }

    private static void longText() {
        CommaChoir x = new CommaChoir();
        StringBuilder text = new StringBuilder();
        for (int i = 0; i < 60; i++) {
            text.append("c;");
        }
        due.is("24: sixty orders, the thirteenth refused", Choirs.doesText(x, text.toString()), -1012);
        due.is("24: none done", x.count(0), 0);
        due.is("24: forty limits", Choirs.doesText(x, "l1;".repeat(40)), 40);
        due.is("24: one fault at the end", Choirs.doesText(x, "l1;".repeat(39) + "l1 "), -130);
        due.is("24: blanks alone", Choirs.doesText(x, " ".repeat(120)), -130);
    }

    private static void back() {
        CommaChoir x = new CommaChoir();
        due.is("25: none", x.back(), Due.NO);
        due.is("25: counted", x.told(1), 1);
        for (int v = 0; v < 8; v++) {
            x.limit(v);
        }
        due.is("25: five at most", x.told(4), 5);
        Choirs.typeAll(x, "c;");
        x.limit(-1);
        for (int left = 4; left >= 0; left--) {
            due.is("25: left", x.back(), left);
            due.is("25: limit", x.count(4), left + 2);
        }
        due.is("25: no more", x.back(), Due.NO);
        due.is("25: the text stays", x.told(3), 2);
        due.is("25: refusals stay", x.told(0), 1);
        due.is("25: refusals stay, NO", x.told(1), 2);
        x.limit(50);
        due.is("25: a new one", x.told(4), 1);
        due.is("25: to that", x.back(), 0);
        due.is("25: limit", x.count(4), 2);
    }

    private static void backOfEachCall() {
        for (int call = 0; call < 8; call++) {
            CommaChoir x = Choirs.commaPump();
            Choirs.typeAll(x, "f0;");
            x.limit(1000);
            x.back();
            int states = x.told(4);
            long before = x.digest();
            int answer = change(x, call);
            due.is("25: call " + call + " leaves a state", x.told(4), states + 1);
            due.is("25: call " + call + " is not refused", answer < -1 ? 1 : 0, 0);
            due.is("25: call " + call + " changes", x.digest() == before ? 1 : 0, 0);
            due.is("25: back from call " + call, x.back(), states);
            due.is("25: as it was before call " + call, x.digest(), before);
        }
    }

    private static int change(CommaChoir x, int call) {
        switch (call) {
            case 0: return x.chord();
            case 1: return x.tone(4, 7, 4);
            case 2: return x.tunes(0, 0, 9, 8);
            case 3: return x.holds(0, 1, 0);
            case 4: return x.frees(0);
            case 5: return x.drops();
            case 6: return x.limit(3);
            default: return x.does();
        }
    }

    private static void told() {
        CommaChoir x = new CommaChoir();
        due.is("26: below 0", x.told(-1), Due.BAD);
        due.is("26: too great", x.told(5), Due.BAD);
        x.drops();
        for (int i = 0; i < 13; i++) {
            x.chord();
        }
        x.type(99);
        int[] got = {x.told(0), x.told(1), x.told(2), x.told(3), x.told(4)};
        due.are("26: told", got, 2, 1, 1, 1, 5);
        due.is("26: getters count, too", x.root(12, 0), Due.BAD);
        due.is("26: BAD", x.told(0), 3);
        x.back();
        due.is("26: back does not take them back", x.told(0), 3);
        due.is("26: states", x.told(4), 4);
    }

    private static void toldOfEachCall() {
        CommaChoir x = new CommaChoir();
        x.chord();
        int[] answers = {x.tone(1, 1, 1), x.tunes(0, 0, 1, 1), x.holds(0, 0, 0), x.frees(1), x.limit(-1),
            x.of(0, 0, 0), x.root(1, 0), x.pitch(0, 0, 0), x.tie(1, 0), x.loop(0, 1, 0), x.part(1, 0),
            x.share(1), x.set(1), x.count(6), x.interval(0, 0, 1, 0), x.order(0, 0), x.voice(5, 0),
            x.leap(0, 0), x.type(128), x.told(5)};
        for (int answer : answers) {
            due.is("26: BAD", answer, Due.BAD);
        }
        due.is("26: BAD of each call", x.told(0), answers.length);
        x.tone(0, 1, 1);
        x.chord();
        int[] refused = {x.holds(1, 0, 0), x.frees(1), x.tie(1, 0), x.loop(0, 1, 0), x.share(0), x.share(1)};
        due.are("26: NO of each call", refused, Due.BAD, Due.NO, Due.NO, Due.NO, Due.NO, Due.NO);
        due.is("26: how often NO", x.told(1), 5);
        x.drops();
        x.drops();
        due.is("26: drops", x.drops(), Due.NO);
        for (int left = 4; left >= 0; left--) {
            x.back();
        }
        due.is("26: back", x.back(), Due.NO);
        due.is("26: how often NO at last", x.told(1), 7);
        due.is("26: how often BAD at last", x.told(0), answers.length + 1);
    }

    private static void digest() {
        CommaChoir x = new CommaChoir();
        Choirs.add(x, 2, 1, 3, 2);
        Choirs.add(x, 1, 1);
        x.holds(0, 1, 0);
        x.type(1);
        x.chord();
        x.drops();
        x.drops();
        x.back();
        x.set(9);
        // root of chord 1: 3 by 2, 70196, drift -49804; its one tie gets the limit
        int[] row = {1, 0, 0, 1, 4, 2, 1, 1, 3, 2000, 2000,
            0, 0, 0, 0, 0, 0, 0, 0, 1, 0, 0, 0, 120000, -1, 1, 0, 0, 70196, 1, 0,
            -1, 1, 0, 0, 70196, -49804, 0, 2000, 0, 0, 0, 0, 72196, 0,
            1, 0, 2000, 0, 2, -49804, -47804};
        long h = 1775;
        for (int v : row) {
            h = 31 * h + v;
        }
        due.is("27: digest", x.digest(), h);
        due.is("27: changes nothing", x.digest(), h);
    }
}
