/** Boundary cases of promises 22 to 24, and of how the text is read. */
final class EdgesOfTexts {
    private static final String TERMS = "Terms";

    private EdgesOfTexts() {
    }

    static void all(Edges edges) {
        type(edges);
        clear(edges);
        numbers(edges);
        blanks(edges);
        faults(edges);
        refusedOrders(edges);
        does(edges);
    }

    /** Does the text on the comma pump, which stays as it was, as does its text. */
    private static void faultIs(Due due, String text, int place) {
        undoneIs(due, text, -10 - place);
    }

    private static void refusedIs(Due due, String text, int order) {
        undoneIs(due, text, -1000 - order);
    }

    private static void undoneIs(Due due, String text, int answer) {
        CommaChoir x = Choirs.commaPump();
        CommaChoir twin = Choirs.commaPump();
        Choirs.typeAll(x, text);
        Choirs.typeAll(twin, text);
        due.is("'" + text + "'", x.does(), answer);
        due.are("'" + text + "', how often refused", Edges.refusals(x), 0, 0, 0);
        Edges.same(due, "'" + text + "'", x, twin);
    }

    private static void doneIs(Due due, String text, int orders) {
        due.is("'" + text + "'", Choirs.doesText(Choirs.commaPump(), text), orders);
    }

    private static CommaChoir typed(String text) {
        CommaChoir x = Choirs.commaPump();
        Choirs.typeAll(x, text);
        return x;
    }

    // ---- promise 22

    private static void type(Edges edges) {
        edges.range("Promise 22", "A byte (0 .. 127) comes behind THE TEXT: how many it has. BAD;", "c of type",
            (x, a) -> x.type(a[0]), new int[] {0}, 0, 0, 127);
        edges.of("Promise 22", "A byte (0 .. 127) comes behind THE TEXT", "each byte, and each can be a fault", due -> {
            for (int b = 0; b <= 127; b++) {
                CommaChoir x = typed("c;");
                due.is("byte " + b, x.type(b), 3);
                due.is("fault at " + b, x.does(), b == ' ' ? 1 : "ctfhl".indexOf(b) >= 0 ? -13 : -12);
            }
        });
        edges.of("Promise 22", "FULL: 120.", "the 120th, the 121st", due -> {
            CommaChoir x = new CommaChoir();
            for (int i = 1; i <= 120; i++) {
                due.is("byte", x.type(' '), i);
            }
            due.is("full", x.type(' '), Due.FULL);
            due.is("counted", x.told(2), 1);
            due.is("bytes", x.told(3), 120);
        });
        edges.of(TERMS, "THE TEXT (120 bytes at most)", "nothing comes behind", due -> {
            String text = "l1;".repeat(39) + "l99";
            Edges.refuses(due, "the end of an order", () -> typed(text), x -> x.type(';'), Due.FULL);
            Edges.refuses(due, "a fault", () -> typed("l1;".repeat(40)), x -> x.type('x'), Due.FULL);
        });
        edges.of("Promise 22", "FULL: 120.", "BAD ahead of FULL", due -> {
            Edges.refuses(due, "128", () -> typed(" ".repeat(120)), x -> x.type(128), Due.BAD);
            Edges.refuses(due, "-1", () -> typed(" ".repeat(120)), x -> x.type(-1), Due.BAD);
        });
        edges.of("Promise 22", "FULL: 120.", "room again after clear", due -> {
            CommaChoir x = typed(" ".repeat(120));
            x.clear();
            due.is("the first again", x.type('c'), 1);
        });
        edges.of("Promise 22", "how many it has", "leaves no state", due -> {
            CommaChoir x = new CommaChoir();
            x.type('c');
            x.clear();
            due.is("states", x.told(4), 0);
        });
    }

    // ---- promise 23

    private static void clear(Edges edges) {
        edges.of("Promise 23", "THE TEXT is empty: how many it had.", "none, one, all", due -> {
            CommaChoir x = new CommaChoir();
            due.is("none", x.clear(), 0);
            x.type('c');
            due.is("one", x.clear(), 1);
            due.is("none again", x.clear(), 0);
            Choirs.typeAll(x, " ".repeat(120));
            due.is("all", x.clear(), 120);
            due.is("bytes", x.told(3), 0);
            due.is("states", x.told(4), 0);
        });
        edges.of("Promise 23", "THE TEXT is empty: how many it had.", "nothing of it is read any more", due -> {
            CommaChoir x = typed("l1;l2;");
            x.clear();
            due.is("empty", x.does(), -10);
            Choirs.typeAll(x, "l3;");
            due.is("the new one alone", x.does(), 1);
            due.is("limit", x.count(4), 3);
        });
    }

    // ---- numbers

    private static void numbers(Edges edges) {
        edges.of(TERMS, "Numbers have 1 to 4 figures", "none", due -> {
            faultIs(due, "l;", 1);
            faultIs(due, "l ;", 2);
            faultIs(due, "t0 1;", 4);
            faultIs(due, "h0 0 ;", 5);
            faultIs(due, "f;", 1);
        });
        edges.of(TERMS, "Numbers have 1 to 4 figures", "one and four", due -> {
            int[][] rows = {{0, 0}, {9, 9}};
            for (int[] row : rows) {
                CommaChoir x = Choirs.commaPump();
                due.is("one", Choirs.doesText(x, "l" + row[0] + ";"), 1);
                due.is("limit", x.count(4), row[1]);
            }
            CommaChoir x = Choirs.commaPump();
            due.is("four", Choirs.doesText(x, "l9999;"), 1);
            due.is("limit", x.count(4), 9999);
            due.is("zeros", Choirs.doesText(x, "l0000;"), 1);
            due.is("limit", x.count(4), 0);
            due.is("zeros ahead", Choirs.doesText(x, "l0012;"), 1);
            due.is("limit", x.count(4), 12);
        });
        edges.of(TERMS, "Numbers have 1 to 4 figures", "0 to 9 and no other byte", due -> {
            for (char b = 0; b <= 127; b++) {
                boolean figure = "0123456789".indexOf(b) >= 0;
                due.is("'l" + b + "'", Choirs.doesText(Choirs.commaPump(), "l" + b + ";"),
                    figure ? 1 : b == ' ' ? -12 : -11);
                due.is("'l1" + b + "'", Choirs.doesText(Choirs.commaPump(), "l1" + b),
                    figure || b == ' ' ? -13 : b == ';' ? 1 : -12);
            }
            for (int figure = 0; figure <= 9; figure++) {
                CommaChoir x = Choirs.commaPump();
                Choirs.doesText(x, "l" + figure + ";");
                due.is("limit", x.count(4), figure);
            }
        });
        edges.of(TERMS, "Numbers have 1 to 4 figures", "each of three", due -> {
            CommaChoir x = Choirs.commaPump();
            due.is("t", Choirs.doesText(x, "t0001 0064 0063;"), 1);
            due.is("size", x.of(1, 3, 4), 2725);
            due.is("h", Choirs.doesText(x, "h0003 0001 0002;"), 1);
            due.is("held", x.tie(3, 0), 1);
            due.is("held as", x.tie(3, 1), 2);
            due.is("f", Choirs.doesText(x, "f0003;"), 1);
            due.is("free", x.tie(3, 0), Due.NONE);
        });
        edges.of(TERMS, "(a fifth figure)", "in each number", due -> {
            faultIs(due, "l10000;", 5);
            faultIs(due, "l00000;", 5);
            faultIs(due, "f00000;", 5);
            faultIs(due, "t00000 1 1;", 5);
            faultIs(due, "t0 00001 1;", 7);
            faultIs(due, "t0 1 00001;", 9);
            faultIs(due, "h0 0 00000;", 9);
            faultIs(due, "l99999", 5);
        });
        edges.of(TERMS, "c (as chord), t c n d (as tone), h c i j (as holds), f c (as frees), l n (as limit)",
            "one number too many, too few", due -> {
                faultIs(due, "c0;", 1);
                faultIs(due, "c 0;", 2);
                faultIs(due, "l0 0;", 3);
                faultIs(due, "f0 0;", 3);
                faultIs(due, "t0 1 1 1;", 7);
                faultIs(due, "h0 0 0 0;", 7);
                faultIs(due, "t0 1;", 4);
                faultIs(due, "h0 0;", 4);
                faultIs(due, "t;", 1);
                faultIs(due, "h;", 1);
            });
        edges.of(TERMS, "c (as chord), t c n d (as tone), h c i j (as holds), f c (as frees), l n (as limit)",
            "no other letter, no great one", due -> {
                for (char letter = 0; letter <= 127; letter++) {
                    boolean starts = "cthfl ".indexOf(letter) >= 0;
                    due.is("'" + letter + "'", Choirs.doesText(Choirs.commaPump(), letter + "0;"),
                        letter == 'f' || letter == 'l' ? 1 : letter == 't' || letter == 'h' ? -12 : starts ? -11 : -10);
                }
            });
    }

    // ---- blanks

    private static void blanks(Edges edges) {
        String words = "blanks (32) may stand anywhere but within a number";
        edges.of(TERMS, words, "in every gap", due -> {
            CommaChoir x = Choirs.commaPump();
            due.is("one", Choirs.doesText(x, " c ; t 5 7 4 ; h 4 1 0 ; f 3 ; l 8 ; "), 5);
            int[] got = {x.count(0), x.of(5, 0, 3), x.tie(4, 0), x.tie(3, 0), x.count(4)};
            due.are("done", got, 6, 1, 1, Due.NONE, 8);
            doneIs(due, "   c   ;   t   5   7   4   ;   l   8   ;   ", 3);
        });
        edges.of(TERMS, words, "ahead of the first and behind the last", due -> {
            doneIs(due, " ".repeat(118) + "c;", 1);
            doneIs(due, "c;" + " ".repeat(118), 1);
        });
        edges.of(TERMS, words, "within a number it makes two of it", due -> {
            faultIs(due, "l1 2;", 3);
            faultIs(due, "f0 0;", 3);
            faultIs(due, "t0 1 1 1;", 7);
            CommaChoir x = Choirs.commaPump();
            due.is("side by side", Choirs.doesText(x, "t0 1 2;"), 1);
            due.is("1 by 2, not 12", x.of(0, 3, 0), -1);
        });
        edges.of(TERMS, words, "31, 33 and other white ones are none", due -> {
            for (char b : new char[] {0, 9, 10, 11, 12, 13, 31, 33, 127}) {
                faultIs(due, "c" + b + ";", 1);
                faultIs(due, b + "c;", 0);
                faultIs(due, "c;" + b, 2);
            }
        });
        edges.of(TERMS, "needed only where figures of two numbers would else stand side by side", "nowhere else", due -> {
            doneIs(due, "c;t5 7 4;h4 1 0;f3;l8;", 5);
            faultIs(due, "t011;", 4);
            faultIs(due, "t0 11;", 5);
            faultIs(due, "h000;", 4);
        });
    }

    // ---- faults

    private static void faults(Edges edges) {
        edges.of(TERMS, "FAULT: the place of the first byte that can not stand there", "the first one of the text", due -> {
            faultIs(due, ";", 0);
            faultIs(due, "0", 0);
            faultIs(due, "x", 0);
            faultIs(due, "C;", 0);
            faultIs(due, "\0", 0);
        });
        edges.of(TERMS, "FAULT: the place of the first byte that can not stand there", "the last one of a full text", due -> {
            faultIs(due, "l1;".repeat(39) + "l1x", 119);
            faultIs(due, "c" + " ".repeat(118) + "c", 119);
            faultIs(due, "l1;".repeat(39) + "c;;", 119);
        });
        edges.of(TERMS, "FAULT: the place of the first byte that can not stand there", "the first of many", due -> {
            faultIs(due, "c;;x", 2);
            faultIs(due, "cx;x", 1);
            faultIs(due, "l1 x;;", 3);
        });
        edges.of(TERMS, "FAULT: the place of the first byte that can not stand there", "an order within an order", due -> {
            faultIs(due, "cc;", 1);
            faultIs(due, "l1c;", 2);
            faultIs(due, "t0 1l;", 4);
            faultIs(due, "h0 0 0h;", 6);
        });
        edges.of(TERMS, "each ended by ;", "the last one is not, one without an order", due -> {
            faultIs(due, "c", 1);
            faultIs(due, "c;c", 3);
            faultIs(due, "l1;l2", 5);
            faultIs(due, "c;;", 2);
            faultIs(due, "c; ;", 3);
        });
        edges.of(TERMS, "the TEXT's length, if it ends too early", "in each place of an order", due -> {
            String text = "c;t5 7 4;";
            for (int length = 3; length < text.length(); length++) {
                faultIs(due, text.substring(0, length), length);
                faultIs(due, text.substring(0, length) + " ", length + 1);
            }
            doneIs(due, text, 2);
        });
        edges.of(TERMS, "the TEXT's length, if it ends too early", "nothing of it is left for the next reading", due -> {
            CommaChoir x = Choirs.commaPump();
            int[] got = {Choirs.doesText(x, "l12"), Choirs.doesText(x, "5;"), Choirs.doesText(x, "t0 1"),
                Choirs.doesText(x, " 1;"), Choirs.doesText(x, "t0"), Choirs.doesText(x, ";"), Choirs.doesText(x, "c"),
                Choirs.doesText(x, ";"), Choirs.doesText(x, "l9;l1"), Choirs.doesText(x, "l8;")};
            due.are("answers", got, -13, -10, -14, -11, -12, -10, -11, -10, -15, 1);
            due.is("limit", x.count(4), 8);
        });
        edges.of(TERMS, "the TEXT's length, if it ends too early", "a full text", due -> {
            faultIs(due, "l1;".repeat(39) + "l1 ", 120);
            faultIs(due, "l1;".repeat(39) + "l99", 120);
            faultIs(due, "c;" + " ".repeat(117) + "c", 120);
        });
        edges.of(TERMS, "(one that is empty or has blanks alone, too)", "empty", due -> {
            faultIs(due, "", 0);
            due.is("a new choir", new CommaChoir().does(), -10);
        });
        edges.of(TERMS, "(one that is empty or has blanks alone, too)", "blanks alone", due -> {
            faultIs(due, " ", 1);
            faultIs(due, "     ", 5);
            faultIs(due, " ".repeat(120), 120);
        });
        edges.of(TERMS, "If there is one, nothing is done.", "at the end, behind orders that could be", due -> {
            faultIs(due, "c;l1;f0;h1 1 1;x", 15);
            faultIs(due, "c;l1;f0;h1 1 1;c", 16);
        });
        edges.of("Promise 24", "-10 less the FAULT (no S)", "the least and the greatest", due -> {
            CommaChoir x = Choirs.commaPump();
            due.is("at 0", Choirs.doesText(x, "x"), -10);
            due.is("at 120", Choirs.doesText(x, " ".repeat(120)), -130);
        });
        edges.of("Promise 24", "-10 less the FAULT (no S)", "no state", due -> {
            CommaChoir x = new CommaChoir();
            Choirs.doesText(x, "c;x");
            due.is("states", x.told(4), 0);
            due.is("back", x.back(), Due.NO);
        });
    }

    // ---- orders that are refused

    private static void refusedOrders(Edges edges) {
        edges.of(TERMS, "THE TEXT is read whole first", "a fault behind a refused order", due -> {
            faultIs(due, "f9;x", 3);
            faultIs(due, "f9;c", 4);
            faultIs(due, "l1;f9;l2;;", 9);
        });
        edges.of(TERMS, "an ORDER that its call would refuse then ends all, nothing is done", "by BAD", due -> {
            refusedIs(due, "l1;t5 1 1;", 1);
            refusedIs(due, "l1;t0 11 1;", 1);
            refusedIs(due, "l1;t0 1 65;", 1);
            refusedIs(due, "l1;t0 0 1;", 1);
            refusedIs(due, "f0;h0 3 0;", 1);
            refusedIs(due, "f0;h0 0 3;", 1);
            refusedIs(due, "f0;h5 0 0;", 1);
            refusedIs(due, "f0;f5;", 1);
            refusedIs(due, "f0;f9999;", 1);
        });
        edges.of(TERMS, "an ORDER that its call would refuse then ends all, nothing is done", "by NO", due -> {
            refusedIs(due, "f4;", 0);
            refusedIs(due, "c;f5;", 1);
            refusedIs(due, "h4 0 0;", 0);
            refusedIs(due, "h4 0 9999;", 0);
        });
        edges.of(TERMS, "an ORDER that its call would refuse then ends all, nothing is done", "by FULL", due -> {
            refusedIs(due, "c;".repeat(8), 7);
            refusedIs(due, "t0 1 1;t0 1 1;t0 1 1;", 2);
        });
        edges.of(TERMS, "an ORDER that its call would refuse then ends all, nothing is done",
            "what orders ahead have made counts for it", due -> {
                doneIs(due, "c;c;f5;", 3);
                doneIs(due, "c;t5 1 1;h4 0 0;f4;", 4);
                refusedIs(due, "c;h4 0 0;", 1);
                doneIs(due, "c;".repeat(7), 7);
            });
        edges.of(TERMS, "an ORDER that its call would refuse then ends all, nothing is done",
            "every kind of order ahead is undone", due -> {
                refusedIs(due, "c;t0 1 1;h0 1 1;f1;l1;f9;", 5);
                refusedIs(due, "l1;l2;l3;l2000;f9;", 4);
            });
        edges.of("Promise 24", "-1000 less the number (0 on) of the ORDER that ends all (no S)", "the first order", due -> {
            refusedIs(due, "f9;", 0);
            refusedIs(due, "f9;f9;", 0);
        });
        edges.of("Promise 24", "-1000 less the number (0 on) of the ORDER that ends all (no S)", "the farthest", due -> {
            CommaChoir x = new CommaChoir();
            String text = "c;".repeat(12) + "l1;".repeat(31);
            due.is("bytes", text.length(), 117);
            due.is("order 43", Choirs.doesText(x, text + "f9 "), -130);
            due.is("order 43 ended", Choirs.doesText(x, text + "f0;"), 44);
            x.back();
            due.is("order 43 refused", Choirs.doesText(x, "c;".repeat(11) + "l1;".repeat(31) + " f99;"), -1042);
            due.is("order 43 refused", Choirs.doesText(x, text.replace("l1;c", "c") + "c; "), -1043);
            due.is("nothing done", x.count(0), 0);
        });
        edges.of("Promise 24", "-1000 less the number (0 on) of the ORDER that ends all (no S)", "sixty orders", due -> {
            CommaChoir x = new CommaChoir();
            due.is("the thirteenth chord", Choirs.doesText(x, "c;".repeat(60)), -1012);
            due.is("nothing done", x.count(0), 0);
        });
        edges.of("Promise 24", "-1000 less the number (0 on) of the ORDER that ends all (no S)", "no state", due -> {
            CommaChoir x = new CommaChoir();
            Choirs.doesText(x, "c;f0;");
            due.is("states", x.told(4), 0);
            due.is("back", x.back(), Due.NO);
        });
    }

    // ---- promise 24

    private static void does(Edges edges) {
        edges.of("Promise 24", "ORDERS are done (THE TEXT stays): how many.", "one, the most", due -> {
            CommaChoir x = new CommaChoir();
            due.is("one", Choirs.doesText(x, "c;"), 1);
            x.back();
            due.is("44", Choirs.doesText(x, "c;".repeat(12) + "l7;".repeat(32)), 44);
            due.is("chords", x.count(0), 12);
            due.is("limit", x.count(4), 7);
        });
        edges.of("Promise 24", "ORDERS are done (THE TEXT stays): how many.", "done again", due -> {
            CommaChoir x = typed("c;l9;");
            int[] got = {x.does(), x.told(3), x.does(), x.told(3), x.count(0)};
            due.are("twice", got, 2, 5, 2, 5, 7);
            x.back();
            due.is("the text stays", x.told(3), 5);
            due.is("and can be done", x.does(), 2);
        });
        edges.of("Promise 24", "ORDERS are done (THE TEXT stays): how many.", "in their order", due -> {
            CommaChoir x = typed("l1;l2;l3;");
            x.does();
            due.is("the last one stays", x.count(4), 3);
        });
        edges.of("Promise 24", "S (one STATE for all).", "of many orders", due -> {
            CommaChoir x = new CommaChoir();
            Choirs.doesText(x, "c;".repeat(12) + "l7;".repeat(32));
            due.is("states", x.told(4), 1);
            due.is("back", x.back(), 0);
            due.is("chords", x.count(0), 0);
            due.is("limit", x.count(4), 2000);
        });
        edges.of("Promise 24", "S (one STATE for all).", "the sixth state", due -> {
            CommaChoir x = new CommaChoir();
            Choirs.typeAll(x, "c;");
            for (int i = 0; i < 6; i++) {
                x.does();
            }
            due.is("states", x.told(4), 5);
            for (int left = 4; left >= 0; left--) {
                due.is("back", x.back(), left);
                due.is("chords", x.count(0), left + 1);
            }
        });
    }
}
