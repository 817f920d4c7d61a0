/** The boundary cases of promises 22 to 25: THE TEXT, FAULTS, ORDERS and CAUSE. */
public final class TextBoundaryTest {
    private static final int NONE = PictureRing.NONE, BAD = PictureRing.BAD, FULL = PictureRing.FULL;
    private static final int LEAST = Integer.MIN_VALUE, MOST = Integer.MAX_VALUE;
    private static final String FIGURES = "0123456789", LETTERS = "wspctax";

    private TextBoundaryTest() { }

    public static void main(String[] args) {
        typeNumbers();
        typeFull();
        clearTells();
        everyByteEverywhere();
        howManyNumbers();
        sixFigures();
        minusAheadOfD();
        blanksAnywhere();
        blanksNeeded();
        endsTooEarly();
        faultInAFullText();
        faultDoesNothing();
        ordersAsTheirCalls();
        ordersAtTheirEdges();
        ordersSeeThoseAhead();
        ordersManyAndOne();
        stopDoesNothing();
        stopTellsTheOrder();
        nothingCounts();
        textStays();
        oneStateForAll();
        causeAtFirst();
        causeKinds();
        causeStays();
        whyNumbers();
        Check.end();
    }

    /** What the text answers in a new object. */
    private static void readsIs(String text, int answer) {
        Check.due("reads() of '" + text + "'", Scenes.readsOf(new PictureRing(), text), answer);
    }

    private static void faultIs(String text, int fault) {
        readsIs(text, -10 - fault);
    }

    // ---- promises 22 and 23

    private static void typeNumbers() {
        Check.sentence("A byte (0 .. 127) comes behind THE TEXT: how many it has. BAD.");
        PictureRing x = new PictureRing();
        Check.due("type(-1)", x.type(-1), BAD);
        Check.due("type(0)", x.type(0), 1);
        Check.due("type(127)", x.type(127), 2);
        Check.due("type(128)", x.type(128), BAD);
        Check.due("type(LEAST)", x.type(LEAST), BAD);
        Check.due("type(MOST)", x.type(MOST), BAD);
        Check.due("type(59)", x.type(59), 3);
        Check.due("told(0)", x.told(0), 4);
        Check.due("told(3)", x.told(3), 3);
        Check.due("STATES", x.told(8), 0);
    }

    private static void typeFull() {
        Check.sentence("(120 bytes at most). FULL: 120.");
        PictureRing x = new PictureRing();
        for (int n = 1; n <= 120; n++) {
            Check.due("byte " + n, x.type(32), n);
        }
        Check.due("byte 121", x.type(59), FULL);
        Check.due("byte 121, not as told: above", x.type(128), BAD);
        Check.due("byte 121, not as told: below", x.type(-1), BAD);
        Check.due("bytes", x.told(3), 120);
        Check.due("told(2)", x.told(2), 1);
        Check.due("told(0)", x.told(0), 2);
        Check.due("it stays as it was", x.reads(), -130);
        Check.due("clear()", x.clear(), 120);
        Check.due("there is room again", x.type(59), 1);
    }

    private static void clearTells() {
        Check.sentence("THE TEXT is empty: how many it had.");
        PictureRing x = new PictureRing();
        Check.due("nothing there yet", x.clear(), 0);
        x.type(116);
        x.type(128);
        Check.due("one byte", x.clear(), 1);
        Check.due("again", x.clear(), 0);
        Check.due("bytes", x.told(3), 0);
        Check.due("it is an empty one", x.reads(), -10);
        Check.due("nothing stays of it", Scenes.readsOf(x, "a7;"), 1);
        Check.due("T", x.told(6), 8);
        Check.due("STATES", x.told(8), 1);
        Check.due("clear() of three", x.clear(), 3);
        Check.due("no STATE by it", x.told(8), 1);
    }

    // ---- promise 24: FAULTS

    /** Each of the 128 bytes behind a text, of which these can stand there. */
    private static void canStand(String text, String bytes) {
        for (int c = 0; c < 128; c++) {
            PictureRing x = Scenes.typed(new PictureRing(), text);
            x.type(c);
            int answer = x.reads();
            int length = text.length();
            String of = "byte " + c + " behind '" + text + "'";
            if (bytes.indexOf(c) < 0) {
                Check.due(of, answer, -10 - length);
            } else if (c == ';' || c == ' ' && text.trim().endsWith(";")) {
                Check.due(of + " ends an ORDER", answer >= 0 || answer <= -1000 ? 1 : 0, 1);
            } else {
                Check.due(of, answer, -10 - length - 1);
            }
        }
    }

    private static void everyByteEverywhere() {
        Check.sentence("FAULT: the place of the first byte that can not stand there");
        for (String text : new String[] {"", " ", "   ", "t5;", "t5;  ", "t5 ; "}) {
            canStand(text, LETTERS + " ");
        }
        for (String text : new String[] {"w", "w ", "s", "s ", "p", "c", "t", "a", "x", "x  ", "w1 ", "s1 ", "p1 ", "p1 2 ",
            "p1 2 3 ", "c1 ", "c1 2 ", "t5;x"}) {
            canStand(text, FIGURES + " ");
        }
        for (String text : new String[] {"w1", "s1", "p1", "p1 2", "p1 2 3", "c1", "c1 2", "w 12345"}) {
            canStand(text, FIGURES + " ");
        }
        for (String text : new String[] {"w1 2", "s1 2 3", "s1 2-3", "p1 2 3 4", "c1 2 3", "t1", "a1", "x1", "t12345", "s1 2 -0"}) {
            canStand(text, FIGURES + " ;");
        }
        for (String text : new String[] {"w1 2 ", "s1 2 3 ", "s1 2-3 ", "p1 2 3 4 ", "c1 2 3 ", "t1 ", "a1 ", "x1  ", "t123456",
            "s1 2 -123456", "w1 123456"}) {
            canStand(text, " ;");
        }
        canStand("s1 2", FIGURES + " -");
        canStand("s1 2 ", FIGURES + " -");
        canStand("s1 2  ", FIGURES + " -");
        canStand("s1 2-", FIGURES);
        canStand("s1 2 -", FIGURES);
        canStand("s1 123456", " -");
        canStand("w123456", " ");
        canStand("p1 123456", " ");
    }

    private static void howManyNumbers() {
        Check.sentence("w s p; s x y d; p k r c v; c r c v; t v, a v; x k");
        int[] numbers = {2, 3, 4, 3, 1, 1, 1};
        for (int i = 0; i < numbers.length; i++) {
            StringBuilder text = new StringBuilder().append(LETTERS.charAt(i));
            for (int n = 0; n < numbers[i]; n++) {
                faultIs(text + ";", text.length());
                text.append(n == 0 ? "" : " ").append(20 + n);
            }
            Check.due("'" + text + ";' is an ORDER", Scenes.readsOf(new PictureRing(), text + ";") > -10
                    || Scenes.readsOf(new PictureRing(), text + ";") == -1000 ? 1 : 0, 1);
            faultIs(text + " 9;", text.length() + 1);
        }
    }

    private static void sixFigures() {
        Check.sentence("Numbers have 1 to 6 figures (a seventh figure, too)");
        readsIs("t1;", 1);
        readsIs("t000126;", 1);
        readsIs("t000127;", -1000);
        faultIs("t0000126;", 7);
        faultIs("t1234567;", 7);
        readsIs("w999999 12;", 1);
        readsIs("w999999 000032;", 1);
        faultIs("w1000000 12;", 7);
        faultIs("w1 0000012;", 9);
        faultIs("w  0000001 12;", 9);
        readsIs("w1 12;s000011 000002 000020;", 2);
        readsIs("w1 12;s000011 000002-000020;", 2);
        faultIs("w1 12;s0 0 -0000020;", 18);
        readsIs("w1 12;s0 0 0;p000000 000003 000007 000063;", 3);
        PictureRing x = new PictureRing();
        Scenes.readsOf(x, "w000000 000012;t000126;a000063;c000005 000011 000062;");
        Check.due("T", x.told(6), 126);
        Check.due("A", x.told(7), 63);
        Check.due("P", x.told(4), 12);
        Check.due("a VALUE", x.value(NONE, 5, 11), 62);
        readsIs("t999999;", -1000);
        readsIs("x999999;", -1000);
    }

    private static void minusAheadOfD() {
        Check.sentence("d perhaps - ahead (none behind a -)");
        int[][] cases = {{0, -20, 20}, {0, -1, 39}, {0, 0, 40}, {0, 1, 41}, {0, 20, 60}};
        for (int[] n : cases) {
            PictureRing x = Scenes.flat(12, 40);
            Check.due("s0 0 " + n[1] + ";", Scenes.readsOf(x, "s0 0 " + n[1] + ";"), 1);
            Check.due("a VALUE of it", x.value(0, 3, 7), n[2]);
        }
        PictureRing x = Scenes.flat(12, 40);
        Check.due("below 0, then above", Scenes.readsOf(x, "s0 0-5;s0 0 5;s0 0-0;s0 0-000007;"), 4);
        Check.due("the first", x.value(0, 0, 0), 35);
        Check.due("the second", x.value(1, 0, 0), 45);
        Check.due("0 below 0", x.value(2, 0, 0), 40);
        Check.due("six figures behind it", x.value(3, 0, 0), 33);
        readsIs("w1 12;s0 0 -21;", -1001);
        readsIs("w1 12;s0 0 -20;", 2);
        faultIs("s0 0 - 5;", 6);
        faultIs("s0 0- 5;", 5);
        faultIs("s0 0 --5;", 6);
        faultIs("s0 0 -;", 6);
        faultIs("s0 0 5-;", 6);
        faultIs("s0 -1 0;", 3);
        faultIs("s0-1 0;", 2);
        faultIs("s-1 0 0;", 1);
        for (String text : new String[] {"w-1 12;", "p-1 0 0 0;", "c-1 0 0;", "t-5;", "a-5;", "x-1;"}) {
            faultIs(text, 1);
        }
        faultIs("w1 -12;", 3);
        faultIs("c0 0 -5;", 5);
        faultIs("p0 0 -5 0;", 5);
        faultIs("p0 0 0 -5;", 7);
    }

    private static void blanksAnywhere() {
        Check.sentence("blanks (32) may stand anywhere but within a number");
        for (String text : new String[] {"w1 12;s0 0-3;", " w1 12;s0 0-3;", "w 1 12;s0 0-3;", "w1  12;s0 0-3;",
            "w1 12 ;s0 0-3;", "w1 12; s0 0-3;", "w1 12;s 0 0-3;", "w1 12;s0  0-3;", "w1 12;s0 0 -3;", "w1 12;s0 0-3 ;",
            "w1 12;s0 0-3; ", "   w   1   12   ;   s   0   0   -3   ;   "}) {
            PictureRing x = new PictureRing();
            Check.due("reads() of '" + text + "'", Scenes.readsOf(x, text), 2);
            Check.due("P by '" + text + "'", x.told(4), 12);
            Check.due("a VALUE by '" + text + "'", x.value(0, 0, 0), Math.max(0, x.value(NONE, 0, 0) - 3));
        }
        faultIs("t1 2;", 3);
        faultIs("w1 1 2;", 5);
        faultIs("x 0 0;", 4);
        faultIs("t\t5;", 1);
        faultIs("t5;\n", 3);
    }

    private static void blanksNeeded() {
        Check.sentence("needed only where figures of two numbers would else stand side by side");
        readsIs("t5;a6;t7;a8;", 4);
        readsIs("w1 12;s0 0-3;", 2);
        faultIs("w112;", 4);
        faultIs("w1 12;s00 0;", 11);
        faultIs("w1 12;s0 00;", 11);
        faultIs("w1 12;s00-3;", 9);
        readsIs("w1 12;s0 0 0;p0 1 1 1;c0 0 0;t1;a0;x0;", 7);
    }

    private static void endsTooEarly() {
        Check.sentence("the TEXT's length, if it ends too early (an empty one, too)");
        faultIs("", 0);
        faultIs(" ", 1);
        faultIs("     ", 5);
        for (String text : new String[] {"w1 12;", "s0 0 -3;", "p0 1 2 3;", "c0 1 2;", "t5;", "a5;", "x0;"}) {
            for (int n = 1; n < text.length(); n++) {
                faultIs(text.substring(0, n), n);
                faultIs("t5;" + text.substring(0, n), n + 3);
            }
        }
        faultIs("t5 ", 3);
        faultIs("t5; t", 5);
        readsIs("t5; ", 1);
        PictureRing x = new PictureRing();
        Scenes.typed(x, "t5");
        Check.due("too early", x.reads(), -12);
        x.type(';');
        Check.due("one byte more", x.reads(), 1);
    }

    private static void faultInAFullText() {
        Check.sentence("THE TEXT (120 bytes at most): FAULT");
        String most = "t9;".repeat(39);
        readsIs(most + "t9;", 40);
        readsIs(most + "t9;".substring(0, 2), -10 - 119);
        readsIs(most + "t 9", -10 - 120);
        readsIs(most + "t9,", -10 - 119);
        readsIs(most + "t;9", -10 - 118);
        readsIs(most + "   ", 39);
        readsIs(" ".repeat(120), -10 - 120);
        readsIs(" ".repeat(117) + "t9;", 1);
        readsIs(" ".repeat(119) + ";", -10 - 119);
        readsIs("t" + " ".repeat(117) + "9;", 1);
        PictureRing x = new PictureRing();
        Scenes.typed(x, most + "t7;");
        Check.due("byte 121", x.type('t'), FULL);
        Check.due("nothing changed by it", x.reads(), 40);
        Check.due("the last ORDER is done last", x.told(6), 7);
    }

    private static void faultDoesNothing() {
        Check.sentence("If there is one, nothing is done.");
        PictureRing x = scene();
        for (String text : new String[] {"w1 12;t5", "s0 0 0;;", "p0 0 0 63;q", "c0 0 63;t5 6;", "t5;a", "x0;x", "t0;t", ""}) {
            Check.due("a FAULT in '" + text + "'", Scenes.readsOf(x, text) <= -10 ? 1 : 0, 1);
        }
        Check.due("FAULT ahead of an ORDER that would be refused", Scenes.readsOf(x, "t0;t"), -14);
        Check.due("nothing counts", x.told(0) + x.told(1) + x.told(2), 0);
        x.clear();
        Check.same("nothing changed", Scenes.seenOf(x), Scenes.seenOf(scene()));
        Check.due("KIND", x.why(0), 0);
        Check.due("ORDER", x.why(1), NONE);
    }

    /** A ring of three; 84 calls. */
    private static PictureRing scene() {
        PictureRing x = Scenes.ring(new int[] {0, 2}, new int[] {1, 3}, new int[] {-1, 4});
        x.sets(0, 7);
        return x;
    }

    // ---- promise 24: ORDERS

    private static void ordersAsTheirCalls() {
        Check.sentence("w (as world); s (as shot); p (as paint); c (as dots); t, a (as sets of T, of A); x (as drops)");
        PictureRing x = new PictureRing();
        PictureRing y = new PictureRing();
        String text = "w77 13;s12 2-3;s3 1 20;p1 3 7 62;c5 12 61;t77;a33;s5 0 0;x0;";
        Check.due("reads()", Scenes.readsOf(x, text), 9);
        y.world(77, 13);
        y.shot(12, 2, -3);
        y.shot(3, 1, 20);
        y.paint(1, 3, 7, 62);
        y.dots(5, 12, 61);
        y.sets(0, 77);
        y.sets(1, 33);
        y.shot(5, 0, 0);
        y.drops(0);
        for (int k = 0; k < 2; k++) {
            for (int n = 0; n < 32; n++) {
                Check.due("VALUE " + n + " of " + k, x.value(k, n / 8, n % 8), y.value(k, n / 8, n % 8));
            }
        }
        Check.due("T", x.told(6), 77);
        Check.due("A", x.told(7), 33);
        Check.due("P", x.told(4), 13);
        Check.due("PICTURES", x.told(5), 2);
        Check.due("a VALUE of THE WORLD", x.value(NONE, 5, 12), 61);
        Check.due("STATES", x.told(8), 1);
    }

    private static void ordersAtTheirEdges() {
        Check.sentence("An ORDER that its call would refuse stops all");
        String ahead = "w1 12;s0 0 0;s0 0 0;";
        String[] done = {"w0 12;", "w0 32;", "w999999 32;", "s11 2 20;", "s0 0 -20;", "p1 3 7 63;", "p0 0 0 0;", "c5 11 63;",
            "c0 0 0;", "t1;", "t126;", "a0;", "a63;", "x1;", "x0;"};
        for (String text : done) {
            readsIs(ahead + text, 4);
        }
        String[] refused = {"w0 11;", "w0 33;", "w0 0;", "s12 0 0;", "s0 3 0;", "s0 0 21;", "s0 0 -21;", "p2 0 0 0;", "p0 4 0 0;",
            "p0 0 8 0;", "p0 0 0 64;", "c6 0 0;", "c0 12 0;", "c0 0 64;", "t0;", "t127;", "a64;", "x2;"};
        for (String text : refused) {
            readsIs(ahead + text, -1003);
        }
        for (String text : new String[] {"s0 0 0;", "p0 0 0 0;", "c0 0 0;", "x0;"}) {
            readsIs(text, -1000);
        }
        readsIs("w1 12;" + "s0 0 0;".repeat(6), 7);
        readsIs("w1 12;" + "s0 0 0;".repeat(7), -1007);
    }

    private static void ordersSeeThoseAhead() {
        Check.sentence("ORDERS are done: each as its call, behind those ahead of it");
        readsIs("w1 12;w2 32;s31 0 0;", 3);
        readsIs("w1 32;w2 12;s31 0 0;", -1002);
        readsIs("w1 12;s0 0 0;x0;x0;", -1003);
        readsIs("w1 12;s0 0 0;x0;s0 0 0;p0 0 0 5;", 5);
        PictureRing x = new PictureRing();
        Scenes.readsOf(x, "w0 12;c1 0 63;s0 0 0;c1 0 7;s0 0 0;p1 0 0 9;x0;");
        Check.due("the one that is left", x.value(0, 0, 0), 9);
        Check.due("taken behind the second dot", x.value(0, 1, 0), 7);
        Check.due("t5;t6;", Scenes.readsOf(x, "t5;t6;"), 2);
        Check.due("the last one stands", x.told(6), 6);
    }

    private static void ordersManyAndOne() {
        Check.sentence("ORDERS are done: how many");
        for (int n = 1; n <= 40; n++) {
            readsIs("a9;".repeat(n), n);
            readsIs("a9;".repeat(n - 1) + "t0;", -1000 - (n - 1));
        }
    }

    private static void stopDoesNothing() {
        Check.sentence("stops all: nothing is done");
        String[] texts = {"w1 13;t0;", "s0 0 5;t0;", "p0 0 0 63;t0;", "c0 0 63;t0;", "t5;t0;", "a5;t0;", "x0;t0;", "t0;",
            "w9 14;s13 2 9;p3 0 0 63;c5 13 63;t99;a63;x0;x0;x0;x0;x0;", "x2;x1;x0;s0 0 0;x1;", "x0;s3 2 1;x7;"};
        for (String text : texts) {
            PictureRing x = Scenes.typed(scene(), text);
            PictureRing y = Scenes.typed(scene(), text);
            Check.due("'" + text + "' stops", x.reads() <= -1000 ? 1 : 0, 1);
            x.clear();
            y.clear();
            long[] stopped = Scenes.seenOf(x);
            long[] before = Scenes.seenOf(y);
            // CAUSE tells why
            stopped[6] = before[6];
            stopped[7] = before[7];
            Check.same("'" + text + "', nothing changed", stopped, before);
            Check.due("STATES to go back to", x.back(), y.back());
            Check.due("T of the one before", x.told(6), y.told(6));
            Check.due("A of the one before", x.told(7), y.told(7));
        }
        PictureRing x = Scenes.blankAt(12, new int[][] {{10, 0}, {2, 0}});
        Scenes.mark(x, 0, 1, 0, 4, 40);
        Scenes.readsOf(x, "x0;s0 0 0;w1 13;t0;");
        Check.due("x, y, P stay, too", x.all(4), 1);
    }

    private static void stopTellsTheOrder() {
        Check.sentence("-1000 less the number (0 on) of the ORDER that stops all");
        readsIs("t0;", -1000);
        readsIs("t1;t0;", -1001);
        readsIs("t1;t0;t0;", -1001);
        readsIs("t0;x0;", -1000);
        readsIs("t9;".repeat(39) + "t0;", -1039);
    }

    private static void nothingCounts() {
        Check.sentence("By what THE TEXT tells, by a FAULT of it nothing counts (type() counts as any call).");
        PictureRing x = new PictureRing();
        Scenes.readsOf(x, "t0;");
        Scenes.readsOf(x, "w1 12;" + "s0 0 0;".repeat(7));
        Scenes.readsOf(x, "t");
        Scenes.readsOf(x, "");
        Check.due("told(0)", x.told(0), 0);
        Check.due("told(1)", x.told(1), 0);
        Check.due("told(2)", x.told(2), 0);
        x.type(128);
        Check.due("told(0) behind a refused byte", x.told(0), 1);
        for (int n = 0; n < 120; n++) {
            x.type(32);
        }
        x.type(32);
        Check.due("told(2) behind byte 121", x.told(2), 1);
    }

    private static void textStays() {
        Check.sentence("(THE TEXT stays)");
        PictureRing x = new PictureRing();
        x.world(1, 12);
        Scenes.typed(x, "s0 0 0;");
        for (int n = 1; n <= 6; n++) {
            Check.due("reads(), time " + n, x.reads(), 1);
            Check.due("PICTURES", x.told(5), n);
            Check.due("bytes", x.told(3), 7);
        }
        Check.due("a seventh", x.reads(), -1000);
        Check.due("bytes behind a stop", x.told(3), 7);
        x.type('t');
        Check.due("a FAULT", x.reads(), -18);
        Check.due("bytes behind a FAULT", x.told(3), 8);
        x.back();
        Check.due("bytes behind a step back", x.told(3), 8);
    }

    private static void oneStateForAll() {
        Check.sentence("S (one STATE for all)");
        PictureRing x = new PictureRing();
        Check.due("reads()", Scenes.readsOf(x, "w1 12;s0 0 0;s0 0 0;t5;a6;"), 5);
        Check.due("STATES", x.told(8), 1);
        Check.due("back()", x.back(), 0);
        Check.due("P", x.told(4), 0);
        Check.due("PICTURES", x.told(5), 0);
        Check.due("T", x.told(6), 8);
        Check.due("A", x.told(7), 12);
        for (int t = 20; t <= 24; t++) {
            x.sets(0, t);
        }
        Check.due("5 at most", Scenes.readsOf(x, "t30;t31;") * 10 + x.told(8), 25);
        for (int t = 24; t >= 20; t--) {
            x.back();
            Check.due("T taken back", x.told(6), t);
        }
        Check.due("the oldest is lost", x.back(), PictureRing.NO);
        Check.due("nothing changes by it", Scenes.readsOf(x, "t20;"), 1);
        Check.due("a STATE yet", x.told(8), 1);
        Scenes.readsOf(x, "t20;t0;");
        Scenes.readsOf(x, "t20");
        Check.due("none by a stop or a FAULT", x.told(8), 1);
    }

    // ---- promise 25

    private static void causeAtFirst() {
        Check.sentence("KIND (0), ORDER (1; NONE at first)");
        PictureRing x = new PictureRing();
        Check.due("why(0)", x.why(0), 0);
        Check.due("why(1)", x.why(1), NONE);
        Scenes.readsOf(x, "t5;");
        Scenes.readsOf(x, "t5");
        x.sets(0, 0);
        x.back();
        x.back();
        Check.due("why(0), nothing stopped yet", x.why(0), 0);
        Check.due("why(1), nothing stopped yet", x.why(1), NONE);
    }

    private static void causeKinds() {
        Check.sentence("(2 a number was not as told, 4 as FULL tells), ORDER (its number, from 0 on)");
        String six = "w1 12;" + "s0 0 0;".repeat(6);
        causeIs("t0;", 2, 0);
        causeIs("t1;t2;a64;", 2, 2);
        causeIs("s0 0 0;", 2, 0);
        causeIs("x0;", 2, 0);
        causeIs(six + "s0 0 0;", 4, 7);
        causeIs(six + "s12 0 0;", 2, 7);
        causeIs(six + "s0 3 0;", 2, 7);
        causeIs(six + "s0 0 21;", 2, 7);
        causeIs(six + "x0;s0 0 0;s0 0 0;", 4, 9);
        causeIs("t9;".repeat(39) + "x0;", 2, 39);
    }

    private static void causeIs(String text, int kind, int order) {
        PictureRing x = new PictureRing();
        Scenes.readsOf(x, text);
        Check.due("'" + text + "': KIND", x.why(0), kind);
        Check.due("'" + text + "': ORDER", x.why(1), order);
    }

    private static void causeStays() {
        Check.sentence("of the last ORDER that stopped all (as it is behind ORDERS that are all done, too)");
        PictureRing x = new PictureRing();
        Scenes.readsOf(x, "w1 12;" + "s0 0 0;".repeat(7));
        Scenes.readsOf(x, "w1 12;");
        Check.due("behind ORDERS all done", x.why(0) * 100 + x.why(1), 407);
        Scenes.readsOf(x, "t0");
        Check.due("behind a FAULT", x.why(0) * 100 + x.why(1), 407);
        x.sets(0, 0);
        x.back();
        x.clear();
        Check.due("behind other calls", x.why(0) * 100 + x.why(1), 407);
        Scenes.readsOf(x, "t1;t0;");
        Check.due("the last one", x.why(0) * 100 + x.why(1), 201);
        Scenes.readsOf(x, "t0;");
        Check.due("and the last one again", x.why(0) * 100 + x.why(1), 200);
    }

    private static void whyNumbers() {
        Check.sentence("why: BAD: -10.");
        PictureRing x = new PictureRing();
        for (int what : new int[] {-1, 2, LEAST, MOST}) {
            Check.due("why(" + what + ")", x.why(what), -10);
        }
        Check.due("told(0)", x.told(0), 4);
    }
}
