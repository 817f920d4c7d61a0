/** One method for each promise: ordinary inputs, the edges that the document names, wrong inputs. */
public final class PromiseTest {
    private static final int NONE = PictureRing.NONE, BAD = PictureRing.BAD;
    private static final int NO = PictureRing.NO, FULL = PictureRing.FULL;

    private static int wrong = 0;
    private static int promise = 0;

    private static void due(String what, long got, long want) {
        if (got != want) {
            wrong++;
            System.out.println("promise " + promise + ": " + what + " answered " + got + ", due is " + want);
        }
    }

    public static void main(String[] args) {
        promise1NewObject();
        promise2World();
        promise3Dots();
        promise4Shot();
        promise5Paint();
        promise6Drops();
        promise7Sets();
        promise8Value();
        promise9Change();
        promise10Corners();
        promise11Votes();
        promise12Link();
        promise13Chain();
        promise14All();
        promise15Place();
        promise16Overlap();
        promise17Seam();
        promise18Level();
        promise19Rest();
        promise20Shows();
        promise21Seen();
        promise22Type();
        promise23Clear();
        promise24Reads();
        promise25Why();
        promise26Back();
        promise27Told();
        promise28Digest();
        System.out.println(wrong == 0 ? "all promises hold" : wrong + " answers are not as due");
        if (wrong != 0) {
            System.exit(1);
        }
    }

    // ---- what several tests share

    /** A WORLD of 12 COLUMNS, all of one VALUE (73 calls). */
    private static PictureRing flat(int v) {
        PictureRing x = new PictureRing();
        x.world(0, 12);
        for (int c = 0; c < 12; c++) {
            for (int r = 0; r < 6; r++) {
                x.dots(r, c, v);
            }
        }
        return x;
    }

    /** Three bright dots, so that the three PICTURES, taken all around, are linked by one VOTE each. */
    private static PictureRing threeAround(int d0, int d1, int d2) {
        PictureRing x = flat(10);
        x.dots(1, 1, 20);
        x.dots(1, 5, 40);
        x.dots(1, 9, 58);
        x.shot(0, 0, d0);
        x.shot(4, 0, d1);
        x.shot(8, 0, d2);
        return x;
    }

    /** As three around, but PICTURE 1 lies one ROW lower: by e 1, by e -1, by e 0. */
    private static PictureRing sloping() {
        PictureRing x = flat(10);
        x.dots(2, 1, 20);
        x.dots(2, 5, 40);
        x.dots(2, 9, 58);
        x.shot(0, 0, 0);
        x.shot(4, 1, 0);
        x.shot(8, 0, 0);
        return x;
    }

    /** Six PICTURES, two COLUMNS apart; each shares two of six dots with the next. */
    private static PictureRing sixAround() {
        PictureRing x = flat(0);
        x.sets(1, 2);
        for (int k = 0; k < 6; k++) {
            x.dots(1, 2 * k, 10 * (k + 1));
        }
        for (int k = 0; k < 6; k++) {
            x.shot(2 * k, 0, 0);
        }
        return x;
    }

    /** As many PICTURES of a flat WORLD, all alike and without a CORNER. */
    private static PictureRing blank(int pictures) {
        PictureRing x = flat(0);
        for (int k = 0; k < pictures; k++) {
            x.shot(0, 0, 0);
        }
        return x;
    }

    private static PictureRing typed(PictureRing x, String text) {
        x.clear();
        for (int i = 0; i < text.length(); i++) {
            x.type(text.charAt(i));
        }
        return x;
    }

    private static int readsOf(PictureRing x, String text) {
        return typed(x, text).reads();
    }

    /** Two PICTURES, each the other's FOLLOWER: by e 1, f 4, and back by e 0, f 2. */
    private static PictureRing drifting() {
        PictureRing x = blank(2);
        x.paint(0, 2, 5, 30);
        x.paint(1, 1, 1, 30);
        x.paint(1, 1, 6, 60);
        x.paint(0, 1, 4, 60);
        return x;
    }

    // ---- the world and pictures

    private static void promise1NewObject() {
        promise = 1;
        PictureRing x = new PictureRing();
        long[] told = {0, 0, 0, 0, 0, 0, 8, 12, 0};
        for (int what = 0; what < told.length; what++) {
            due("told(" + what + ")", x.told(what), told[what]);
        }
        due("why(0)", x.why(0), 0);
        due("why(1)", x.why(1), NONE);
        long[] all = {0, 0, 0, 6, 0, 0};
        for (int what = 0; what < all.length; what++) {
            due("all(" + what + ")", x.all(what), all[what]);
        }
        due("rest(0)", x.rest(0), 0);
        due("rest(1)", x.rest(1), 1);
        due("NONE", NONE, -1);
        due("BAD", BAD, -2);
        due("NO", NO, -3);
        due("FULL", FULL, -4);
    }

    private static void promise2World() {
        promise = 2;
        PictureRing x = new PictureRing();
        due("world(0, 12)", x.world(0, 12), 0);
        long n = 0;
        for (int c = 0; c < 12; c++) {
            for (int r = 0; r < 6; r++) {
                n = (n * 1103515245L + 12345L) % (1L << 31);
                due("drawn " + r + ", " + c, x.value(NONE, r, c), (n >> 16) & 63);
            }
        }
        x.shot(1, 1, 0);
        int kept = x.value(0, 2, 2);
        due("world(999999, 32)", x.world(999999, 32), 12);
        due("the last COLUMN", x.value(NONE, 0, 31) >= 0 ? 1 : 0, 1);
        due("PICTURES stay", x.told(5), 1);
        due("a VALUE stays", x.value(0, 2, 2), kept);
        due("STATES", x.told(8), 3);
        due("seed -1", x.world(-1, 12), BAD);
        due("seed 1000000", x.world(1000000, 12), BAD);
        due("p 11", x.world(1, 11), BAD);
        due("p 33", x.world(1, 33), BAD);
        due("P", x.told(4), 32);
        due("STATES after wrong ones", x.told(8), 3);
        due("told(0)", x.told(0), 4);
    }

    private static void promise3Dots() {
        promise = 3;
        PictureRing x = new PictureRing();
        due("no WORLD", x.dots(0, 0, 0), BAD);
        x.world(5, 13);
        int was = x.value(NONE, 5, 12);
        due("dots(5, 12, 63)", x.dots(5, 12, 63), was);
        due("dots(5, 12, 0)", x.dots(5, 12, 0), 63);
        due("dots(5, 12, 0) again", x.dots(5, 12, 0), 0);
        due("STATES", x.told(8), 4);
        int[][] wrongs = {{-1, 0, 0}, {6, 0, 0}, {0, -1, 0}, {0, 13, 0}, {0, 0, -1}, {0, 0, 64}};
        for (int[] w : wrongs) {
            due("dots(" + w[0] + ", " + w[1] + ", " + w[2] + ")", x.dots(w[0], w[1], w[2]), BAD);
        }
        due("told(0)", x.told(0), 7);
        due("STATES still", x.told(8), 4);
    }

    private static void promise4Shot() {
        promise = 4;
        PictureRing x = new PictureRing();
        due("no WORLD", x.shot(0, 0, 0), BAD);
        x.world(77, 15);
        due("shot(14, 2, 20)", x.shot(14, 2, 20), 0);
        due("shot(10, 0, -20)", x.shot(10, 0, -20), 1);
        for (int r = 0; r < 4; r++) {
            for (int c = 0; c < 8; c++) {
                int up = x.value(NONE, 2 + r, (14 + c) % 15) + 20;
                int down = x.value(NONE, r, (10 + c) % 15) - 20;
                due("brighter " + r + ", " + c, x.value(0, r, c), Math.min(63, up));
                due("darker " + r + ", " + c, x.value(1, r, c), Math.max(0, down));
            }
        }
        int[][] wrongs = {{-1, 0, 0}, {15, 0, 0}, {0, -1, 0}, {0, 3, 0}, {0, 0, -21}, {0, 0, 21}};
        for (int[] w : wrongs) {
            due("shot(" + w[0] + ", " + w[1] + ", " + w[2] + ")", x.shot(w[0], w[1], w[2]), BAD);
        }
        for (int k = 2; k < 6; k++) {
            due("number " + k, x.shot(0, 0, 0), k);
        }
        due("a seventh", x.shot(0, 0, 0), FULL);
        due("a seventh, wrong too", x.shot(15, 0, 0), BAD);
        due("told(2)", x.told(2), 1);
        due("told(0)", x.told(0), 8);
        due("PICTURES", x.told(5), 6);
    }

    private static void promise5Paint() {
        promise = 5;
        PictureRing x = new PictureRing();
        due("no PICTURE", x.paint(0, 0, 0, 0), BAD);
        x.world(3, 12);
        x.shot(2, 0, 0);
        int was = x.value(0, 3, 7);
        int dot = x.value(NONE, 3, 9);
        due("paint(0, 3, 7, 63)", x.paint(0, 3, 7, 63), was);
        due("paint(0, 3, 7, 0)", x.paint(0, 3, 7, 0), 63);
        due("painted", x.value(0, 3, 7), 0);
        due("THE WORLD stays", x.value(NONE, 3, 9), dot);
        due("STATES", x.told(8), 4);
        int[][] wrongs = {{-1, 0, 0, 0}, {1, 0, 0, 0}, {0, -1, 0, 0}, {0, 4, 0, 0},
            {0, 0, -1, 0}, {0, 0, 8, 0}, {0, 0, 0, -1}, {0, 0, 0, 64}};
        for (int[] w : wrongs) {
            due("paint of " + java.util.Arrays.toString(w), x.paint(w[0], w[1], w[2], w[3]), BAD);
        }
        due("STATES still", x.told(8), 4);
    }

    private static void promise6Drops() {
        promise = 6;
        PictureRing x = new PictureRing();
        due("none", x.drops(0), BAD);
        x.world(9, 20);
        x.shot(0, 0, 0);
        x.shot(5, 1, 3);
        x.shot(10, 2, -3);
        int second = x.value(1, 1, 1);
        int third = x.value(2, 3, 7);
        due("drops(-1)", x.drops(-1), BAD);
        due("drops(3)", x.drops(3), BAD);
        due("drops(0)", x.drops(0), 2);
        due("the second is nearer", x.value(0, 1, 1), second);
        due("the third is nearer", x.value(1, 3, 7), third);
        due("no third", x.value(2, 0, 0), BAD);
        due("drops(1)", x.drops(1), 1);
        due("the second stays", x.value(0, 1, 1), second);
        due("drops(0), the last", x.drops(0), 0);
        due("told(5)", x.told(5), 0);
        PictureRing y = threeAround(0, 0, 0);
        y.drops(0);
        due("x is kept with a PICTURE that comes nearer", y.all(4), 1);
    }

    private static void promise7Sets() {
        promise = 7;
        PictureRing x = new PictureRing();
        due("T was", x.sets(0, 126), 8);
        due("T was 126", x.sets(0, 1), 126);
        due("A was", x.sets(1, 0), 12);
        due("A was 0", x.sets(1, 63), 0);
        due("T", x.told(6), 1);
        due("A", x.told(7), 63);
        due("STATES", x.told(8), 4);
        int[][] wrongs = {{0, 0}, {0, 127}, {1, -1}, {1, 64}, {-1, 5}, {2, 5}};
        for (int[] w : wrongs) {
            due("sets(" + w[0] + ", " + w[1] + ")", x.sets(w[0], w[1]), BAD);
        }
        due("STATES still", x.told(8), 4);
        due("told(0)", x.told(0), 6);
    }

    private static void promise8Value() {
        promise = 8;
        PictureRing x = new PictureRing();
        due("no WORLD", x.value(NONE, 0, 0), BAD);
        x.world(7, 12);
        x.dots(5, 11, 33);
        due("THE WORLD", x.value(NONE, 5, 11), 33);
        due("no PICTURE", x.value(0, 0, 0), BAD);
        x.shot(4, 2, 1);
        due("a PICTURE", x.value(0, 3, 7), 34);
        int[][] wrongs = {{-2, 0, 0}, {NONE, 6, 0}, {NONE, -1, 0}, {NONE, 0, 12}, {NONE, 0, -1},
            {1, 0, 0}, {0, 4, 0}, {0, -1, 0}, {0, 0, 8}, {0, 0, -1}};
        for (int[] w : wrongs) {
            due("value of " + java.util.Arrays.toString(w), x.value(w[0], w[1], w[2]), BAD);
        }
        due("told(0)", x.told(0), 12);
    }

    // ---- corners and links

    private static void promise9Change() {
        promise = 9;
        PictureRing x = blank(1);
        x.paint(0, 1, 3, 63);
        due("a bright CELL alone", x.change(0, 1, 3), 126);
        due("beside it", x.change(0, 1, 4), 0);
        x.paint(0, 0, 3, 60);
        x.paint(0, 2, 3, 50);
        due("above and below", x.change(0, 1, 3), 16);
        x.paint(0, 1, 2, 61);
        x.paint(0, 1, 4, 62);
        due("left and right", x.change(0, 1, 3), 3);
        x.paint(0, 0, 2, 63);
        x.paint(0, 2, 4, 62);
        due("slantwise", x.change(0, 1, 3), 1);
        x.paint(0, 0, 4, 63);
        x.paint(0, 2, 2, 63);
        due("slantwise the other way", x.change(0, 1, 3), 0);
        due("the last INNER CELL", x.change(0, 2, 6), 0);
        int[][] wrongs = {{-1, 1, 1}, {1, 1, 1}, {0, 0, 1}, {0, 3, 1}, {0, 1, 0}, {0, 1, 7}};
        for (int[] w : wrongs) {
            due("change of " + java.util.Arrays.toString(w), x.change(w[0], w[1], w[2]), BAD);
        }
        due("told(0)", x.told(0), 6);
    }

    private static void promise10Corners() {
        promise = 10;
        PictureRing x = blank(2);
        due("none", x.corners(0), 0);
        x.paint(0, 1, 1, 4);
        due("CHANGE 8 is T", x.corners(0), 1);
        x.sets(0, 9);
        due("CHANGE 8 is below T", x.corners(0), 0);
        x.sets(0, 8);
        x.paint(0, 1, 3, 50);
        x.paint(0, 2, 6, 50);
        due("three", x.corners(0), 1 | 1 << 2 | 1 << 11);
        due("the other PICTURE", x.corners(1), 0);
        x.paint(0, 0, 5, 63);
        x.paint(0, 3, 2, 63);
        due("CELLS at the edge are none", x.corners(0), 1 | 1 << 2 | 1 << 11);
        due("corners(-1)", x.corners(-1), BAD);
        due("corners(2)", x.corners(2), BAD);
        due("told(0)", x.told(0), 2);
    }

    private static void promise11Votes() {
        promise = 11;
        PictureRing x = blank(2);
        x.paint(0, 2, 6, 40);
        x.paint(1, 1, 1, 52);
        due("VALUES 12 apart", x.votes(0, 1, 1, 5), 1);
        due("another e", x.votes(0, 1, 0, 5), 0);
        due("another f", x.votes(0, 1, 1, 4), 0);
        due("the other way", x.votes(1, 0, 1, 5), 0);
        x.sets(1, 11);
        due("12 apart, A 11", x.votes(0, 1, 1, 5), 0);
        x.sets(1, 12);
        x.paint(0, 2, 4, 40);
        x.paint(1, 2, 2, 30);
        due("e 0, f 2", x.votes(0, 1, 0, 2), 1);
        due("e 0, f 4: both, one hit", x.votes(0, 1, 0, 4), 1);
        x.paint(1, 2, 4, 28);
        due("e 0, f 2: two of them", x.votes(0, 1, 0, 2), 2);
        x.paint(1, 2, 5, 40);
        due("e 0, f 1", x.votes(0, 1, 0, 1), 1);
        x.paint(0, 1, 3, 40);
        due("e -1, f 1", x.votes(0, 1, -1, 1), 1);
        int[][] wrongs = {{0, 0, 0, 1}, {-1, 0, 0, 1}, {0, 2, 0, 1}, {2, 0, 0, 1}, {0, -1, 0, 1},
            {0, 1, -2, 1}, {0, 1, 2, 1}, {0, 1, 0, 0}, {0, 1, 0, 6}};
        for (int[] w : wrongs) {
            due("votes of " + java.util.Arrays.toString(w), x.votes(w[0], w[1], w[2], w[3]), BAD);
        }
        due("told(0)", x.told(0), 9);
    }

    private static void promise12Link() {
        promise = 12;
        PictureRing x = blank(2);
        linkIs(x, 0, 1, 0, NONE, NONE);
        // one VOTE each at e 1, f 1 and e 1, f 3
        x.paint(0, 2, 4, 40);
        x.paint(1, 1, 1, 40);
        x.paint(1, 1, 3, 40);
        linkIs(x, 0, 1, 1, 2, 1);
        // e -1, f 1 is like e 1, f 1 but for the sign
        x.paint(0, 1, 6, 20);
        x.paint(1, 2, 5, 20);
        linkIs(x, 0, 1, 1, 0, 1);
        // e 0 goes ahead of both, though its f is 5
        x.paint(0, 2, 6, 60);
        x.paint(1, 2, 1, 60);
        linkIs(x, 0, 1, 1, 1, 5);
        linkIs(x, 1, 0, 0, NONE, NONE);
        // a second VOTE at e 1, f 3 goes ahead of all
        x.paint(0, 2, 6, 40);
        linkIs(x, 0, 1, 2, 2, 3);
        everyShift();
        int[][] wrongs = {{0, 0, 0}, {-1, 0, 0}, {0, 2, 0}, {2, 1, 0}, {1, -1, 0}, {0, 1, -1}, {0, 1, 3}};
        for (int[] w : wrongs) {
            due("link of " + java.util.Arrays.toString(w), x.link(w[0], w[1], w[2]), BAD);
        }
        due("told(0)", x.told(0), 7);
    }

    private static void everyShift() {
        PictureRing x = blank(2);
        for (int e = -1; e <= 1; e++) {
            for (int f = 1; f <= 5; f++) {
                int r = e == 1 ? 2 : 1;
                x.paint(0, r, 6, 40);
                x.paint(1, r - e, 6 - f, 40);
                linkIs(x, 0, 1, 1, e + 1, f);
                x.paint(0, r, 6, 0);
                x.paint(1, r - e, 6 - f, 0);
            }
        }
    }

    private static void linkIs(PictureRing x, int a, int b, int votes, int e, int f) {
        String link = "link " + a + " to " + b + ": ";
        due(link + "VOTES", x.link(a, b, 0), votes);
        due(link + "e and 1", x.link(a, b, 1), e);
        due(link + "f", x.link(a, b, 2), f);
    }

    // ---- the chain

    private static void promise13Chain() {
        promise = 13;
        PictureRing x = threeAround(0, 0, 0);
        for (int k = 0; k < 3; k++) {
            due("FOLLOWER of " + k, x.chain(k, 0), (k + 1) % 3);
            due("ahead of " + k, x.chain(k, 1), (k + 2) % 3);
        }
        // without the dot of 2 and 0 the ring is open
        x.paint(0, 1, 1, 10);
        due("FOLLOWER of 2", x.chain(2, 0), NONE);
        due("ahead of 0", x.chain(0, 1), NONE);
        // a LINK from 2 back to 1 would close a way without 0
        x.paint(2, 2, 6, 63);
        x.paint(1, 2, 2, 63);
        due("LINK from 2 to 1", x.link(2, 1, 0), 1);
        due("it is not taken", x.chain(2, 0), NONE);
        moreVotesFirst();
        waysThatClose();
        int[][] wrongs = {{-1, 0}, {3, 0}, {0, -1}, {0, 2}};
        for (int[] w : wrongs) {
            due("chain(" + w[0] + ", " + w[1] + ")", x.chain(w[0], w[1]), BAD);
        }
        due("told(0)", x.told(0), 4);
    }

    private static void moreVotesFirst() {
        PictureRing x = blank(3);
        // 0 and 1 have one VOTE each for 2; of like ones the least a goes ahead
        x.paint(2, 1, 1, 40);
        x.paint(0, 1, 4, 40);
        x.paint(1, 1, 5, 40);
        due("of like VOTES, ahead of 2", x.chain(2, 1), 0);
        // 1 has now two for 2
        x.paint(2, 2, 2, 60);
        x.paint(1, 2, 6, 60);
        due("VOTES of 1 for 2", x.link(1, 2, 0), 2);
        due("of more VOTES, ahead of 2", x.chain(2, 1), 1);
    }

    private static void waysThatClose() {
        PictureRing x = blank(3);
        x.paint(0, 1, 5, 40);
        x.paint(1, 1, 3, 40);
        x.paint(0, 2, 2, 60);
        x.paint(1, 2, 4, 60);
        due("LINK from 1 to 0", x.link(1, 0, 0), 1);
        due("FOLLOWER of 0", x.chain(0, 0), 1);
        due("a ring without 2 is not taken", x.chain(1, 0), NONE);
        x.drops(2);
        due("a ring of all is", x.chain(1, 0), 0);
        PictureRing six = sixAround();
        for (int k = 0; k < 6; k++) {
            due("FOLLOWER of " + k + " of six", six.chain(k, 0), (k + 1) % 6);
            due("ahead of " + k + " of six", six.chain(k, 1), (k + 5) % 6);
        }
    }

    private static void promise14All() {
        promise = 14;
        PictureRing x = threeAround(0, 5, -3);
        long[] ring = {3, 1, 12, 6, 3, 0};
        for (int what = 0; what < ring.length; what++) {
            due("ring: all(" + what + ")", x.all(what), ring[what]);
        }
        x.paint(0, 1, 1, 10);
        long[] open = {2, 0, 8, 6, 2, 1};
        for (int what = 0; what < open.length; what++) {
            due("open: all(" + what + ")", x.all(what), open[what]);
        }
        due("all(-1)", x.all(-1), BAD);
        due("all(6)", x.all(6), BAD);
        PictureRing y = drifting();
        long[] drift = {2, 1, 6, 7, 0, 0};
        for (int what = 0; what < drift.length; what++) {
            due("drift: all(" + what + ")", y.all(what), drift[what]);
        }
        long[] six = {6, 1, 12, 6, 6, 0};
        PictureRing s = sixAround();
        for (int what = 0; what < six.length; what++) {
            due("six: all(" + what + ")", s.all(what), six[what]);
        }
        due("RIGHT, with ROWS", sloping().all(4), 3);
        PictureRing z = blank(1);
        due("one PICTURE is not CLOSED", z.all(1), 0);
        due("one PICTURE follows none", z.all(5), 1);
        rightLinks();
    }

    private static void rightLinks() {
        PictureRing x = threeAround(0, 0, 0);
        x.drops(2);
        x.world(0, 13);
        x.shot(8, 0, 0);
        for (int r = 0; r < 4; r++) {
            for (int c = 0; c < 8; c++) {
                x.paint(2, r, c, 10);
            }
        }
        x.paint(2, 1, 1, 58);
        x.paint(2, 1, 5, 20);
        due("linked as before", x.all(0), 3);
        due("SHOTS of another P are not RIGHT", x.all(4), 1);
    }

    private static void promise15Place() {
        promise = 15;
        PictureRing x = threeAround(0, 0, 0);
        for (int k = 0; k < 3; k++) {
            due("place(" + k + ", 0)", x.place(k, 0), 4 * k);
            due("place(" + k + ", 1)", x.place(k, 1), 20);
        }
        due("place(3, 0)", x.place(3, 0), BAD);
        due("place(-1, 0)", x.place(-1, 0), BAD);
        due("place(0, 2)", x.place(0, 2), BAD);
        due("place(0, -1)", x.place(0, -1), BAD);
        x.paint(0, 1, 1, 10);
        due("not CLOSED", x.place(0, 0), NO);
        due("not CLOSED, wrong too", x.place(3, 0), BAD);
        due("told(1)", x.told(1), 1);
        due("told(0)", x.told(0), 5);
        // e 1, less half of DRIFT 1: the half is taken as 1, the greater one
        PictureRing y = drifting();
        due("to the right", y.place(1, 0), 4);
        due("lower", y.place(1, 1), 20);
        due("PICTURE 0", y.place(0, 1), 20);
        PictureRing s = sloping();
        due("1 lies lower", s.place(1, 1), 21);
        due("2 does not", s.place(2, 1), 20);
        PictureRing six = sixAround();
        due("the last of six", six.place(5, 0), 10);
    }

    // ---- seams and levels

    private static void promise16Overlap() {
        promise = 16;
        PictureRing x = threeAround(0, 5, -3);
        due("CELLS", x.overlap(0, 0), 16);
        due("differences", x.overlap(0, 1), 80);
        due("at the SEAM", x.overlap(0, 2), 20);
        due("less, and 2000", x.overlap(0, 3), 1920);
        due("more, and 2000", x.overlap(1, 3), 2128);
        // CELL 0, 4 of 0 lies on CELL 0, 0 of 1 (15)
        x.paint(0, 0, 4, 30);
        due("both signs", x.overlap(0, 1), 90);
        due("both signs together", x.overlap(0, 3), 1940);
        int[][] wrongs = {{-1, 0}, {3, 0}, {0, -1}, {0, 4}};
        for (int[] w : wrongs) {
            due("overlap(" + w[0] + ", " + w[1] + ")", x.overlap(w[0], w[1]), BAD);
        }
        PictureRing y = drifting();
        due("CELLS by e 1, f 4", y.overlap(0, 0), 12);
        due("CELLS by e 0, f 2", y.overlap(1, 0), 24);
        PictureRing s = sloping();
        due("nothing differs", s.overlap(0, 1), 0);
        s.paint(1, 0, 0, 13);
        due("CELL 0, 0 lies below 1, 4", s.overlap(0, 1), 3);
        s.paint(0, 1, 4, 12);
        due("less by one", s.overlap(0, 3), 1999);
        due("of the SEAM none", s.overlap(0, 2), 0);
        PictureRing z = blank(1);
        due("no FOLLOWER", z.overlap(0, 0), NO);
        due("no FOLLOWER, wrong too", z.overlap(0, 4), BAD);
        due("told(1)", z.told(1), 1);
    }

    private static void promise17Seam() {
        promise = 17;
        PictureRing x = threeAround(0, 0, 0);
        for (int r = 0; r < 4; r++) {
            due("of like ones the least COLUMN, ROW " + r, x.seam(0, r), 4);
        }
        // the way bends around what differs, by one COLUMN from ROW to ROW
        int[][] bent = {{0, 4}, {0, 5}, {0, 6}, {1, 4}, {1, 5}, {1, 7}, {2, 6}, {3, 6}, {3, 7}};
        for (int[] cell : bent) {
            x.paint(0, cell[0], cell[1], cell[0] == 1 && cell[1] == 5 ? 45 : 14);
        }
        int[] seam = {7, 6, 5, 4};
        for (int r = 0; r < 4; r++) {
            due("bent, ROW " + r, x.seam(0, r), seam[r]);
        }
        due("nothing differs there", x.overlap(0, 2), 0);
        seamIs(new int[][] {{0, 1, 1, 1}, {3, 3, 3, 0}, {3, 3, 3, 0}, {3, 3, 3, 0}},
                new int[] {6, 7, 7, 7}, 1);
        seamIs(new int[][] {{3, 1, 2, 0}, {0, 3, 3, 3}, {0, 3, 3, 3}, {0, 3, 3, 3}},
                new int[] {5, 4, 4, 4}, 1);
        // from COLUMN 4 to 6 is too far
        seamIs(new int[][] {{0, 3, 3, 3}, {3, 3, 0, 3}, {0, 0, 0, 0}, {0, 0, 0, 0}},
                new int[] {4, 4, 4, 4}, 3);
        seamIs(new int[][] {{0, 1, 3, 3}, {3, 3, 0, 3}, {0, 0, 0, 0}, {0, 0, 0, 0}},
                new int[] {5, 6, 5, 4}, 1);
        seamIs(new int[][] {{3, 3, 1, 0}, {3, 0, 3, 3}, {0, 0, 0, 0}, {0, 0, 0, 0}},
                new int[] {6, 5, 4, 4}, 1);
        PictureRing y = drifting();
        due("no ROW 0 of it", y.seam(0, 0), NONE);
        due("ROW 1 of it", y.seam(0, 1) >= 4 ? 1 : 0, 1);
        due("ROW 3 of it", y.seam(0, 3) >= 4 ? 1 : 0, 1);
        int[][] wrongs = {{-1, 0}, {2, 0}, {0, -1}, {0, 4}};
        for (int[] w : wrongs) {
            due("seam(" + w[0] + ", " + w[1] + ")", y.seam(w[0], w[1]), BAD);
        }
        PictureRing z = blank(1);
        due("no FOLLOWER", z.seam(0, 0), NO);
        due("no FOLLOWER, wrong too", z.seam(0, 4), BAD);
    }

    /** The SEAM of PICTURE 0, where its CELLS of the OVERLAP differ by so much. */
    private static void seamIs(int[][] gaps, int[] seam, int cost) {
        PictureRing x = threeAround(0, 0, 0);
        for (int r = 0; r < 4; r++) {
            for (int c = 4; c < 8; c++) {
                x.paint(0, r, c, x.value(0, r, c) + gaps[r][c - 4]);
            }
        }
        for (int r = 0; r < 4; r++) {
            due("SEAM that costs " + cost + ", ROW " + r, x.seam(0, r), seam[r]);
        }
        due("the SEAM's cost", x.overlap(0, 2), cost);
    }

    private static void promise18Level() {
        promise = 18;
        PictureRing x = threeAround(0, 5, -3);
        long[] level = {0, -5, 3};
        for (int k = 0; k < 3; k++) {
            due("level(" + k + ", 0)", x.level(k, 0), level[k]);
            due("level(" + k + ", 1)", x.level(k, 1), 1);
        }
        // 24 more: M of 0 is 24/16 more, a third of which each of the three steps takes off
        x.paint(0, 0, 4, 34);
        due("level(0, 0)", x.level(0, 0), 0);
        due("level(1, 0)", x.level(1, 0), -4);
        due("level(2, 0)", x.level(2, 0), 7);
        due("level(2, 1)", x.level(2, 1), 2);
        // open at 2: the steps are as told
        x.paint(0, 1, 1, 10);
        due("open: level(1, 0)", x.level(1, 0), -7);
        due("open: level(1, 1)", x.level(1, 1), 2);
        due("open: level(2, 0)", x.level(2, 0), 9);
        due("open: level(2, 1)", x.level(2, 1), 2);
        int[][] wrongs = {{-1, 0}, {3, 0}, {0, -1}, {0, 2}};
        for (int[] w : wrongs) {
            due("level(" + w[0] + ", " + w[1] + ")", x.level(w[0], w[1]), -999999);
        }
        due("told(0)", x.told(0), 4);
        PictureRing y = blank(1);
        due("alone, above", y.level(0, 0), 0);
        due("alone, below", y.level(0, 1), 1);
    }

    private static void promise19Rest() {
        promise = 19;
        PictureRing x = threeAround(0, 5, -3);
        due("all agree, above", x.rest(0), 0);
        due("all agree, below", x.rest(1), 1);
        // each of three steps is 1/2 off, at 16 CELLS
        x.paint(0, 0, 4, 34);
        due("above", x.rest(0), 12);
        due("below", x.rest(1), 1);
        // 1/16 instead: three times 16 by 48 by 48
        x.paint(0, 0, 4, 11);
        due("above, cut", x.rest(0), 1);
        due("below, cut", x.rest(1), 48);
        x.paint(0, 1, 1, 10);
        due("open, above", x.rest(0), 0);
        due("open, below", x.rest(1), 1);
        due("rest(-1)", x.rest(-1), BAD);
        due("rest(2)", x.rest(2), BAD);
        due("told(0)", x.told(0), 2);
    }

    private static void promise20Shows() {
        promise = 20;
        PictureRing x = threeAround(0, 0, 0);
        due("from 0 up to ahead of 4", x.shows(0, 0), 15);
        x.paint(0, 0, 4, 14);
        due("up to ahead of 5", x.shows(0, 0), 31);
        due("1 begins one COLUMN later", x.shows(1, 0), 14);
        due("the next ROW", x.shows(1, 1), 15);
        x.paint(0, 1, 1, 10);
        due("no FOLLOWER: up to 7", x.shows(2, 0), 255);
        due("none ahead: from 0", x.shows(0, 1), 15);
        PictureRing y = drifting();
        due("no such ROW of its own SEAM", y.shows(0, 0) >> 7, 1);
        due("no such ROW of that of the one AHEAD", y.shows(1, 3) & 1, 1);
        PictureRing s = sloping();
        s.paint(0, 1, 4, 13);
        int[][] shown = {{255, 31, 15, 15}, {14, 15, 15, 255}, {15, 15, 15, 15}};
        for (int k = 0; k < 3; k++) {
            for (int r = 0; r < 4; r++) {
                due("sloping, shows(" + k + ", " + r + ")", s.shows(k, r), shown[k][r]);
            }
        }
        PictureRing z = blank(1);
        due("alone", z.shows(0, 3), 255);
        int[][] wrongs = {{-1, 0}, {1, 0}, {0, -1}, {0, 4}};
        for (int[] w : wrongs) {
            due("shows(" + w[0] + ", " + w[1] + ")", z.shows(w[0], w[1]), BAD);
        }
        due("told(0)", z.told(0), 4);
    }

    private static void promise21Seen() {
        promise = 21;
        PictureRing x = threeAround(0, 5, -3);
        for (int k = 0; k < 3; k++) {
            due("seen(" + k + ", 0, 0)", x.seen(k, 0, 0), 10);
        }
        x.paint(1, 3, 7, 2);
        due("below 0", x.seen(1, 3, 7), 0);
        x.paint(2, 3, 7, 63);
        due("above 63", x.seen(2, 3, 7), 63);
        PictureRing y = threeAround(0, 5, -3);
        y.paint(0, 0, 4, 34);
        // LEVEL of 2 is 7/2
        due("a half", y.seen(2, 0, 0), 11);
        due("seen(-1, 0, 0)", y.seen(-1, 0, 0), BAD);
        due("seen(3, 0, 0)", y.seen(3, 0, 0), BAD);
        due("seen(0, 4, 0)", y.seen(0, 4, 0), BAD);
        due("seen(0, -1, 0)", y.seen(0, -1, 0), BAD);
        due("seen(0, 0, 8)", y.seen(0, 0, 8), BAD);
        due("seen(0, 0, -1)", y.seen(0, 0, -1), BAD);
        due("told(0)", y.told(0), 6);
        y.paint(0, 1, 1, 10);
        // open: LEVEL of 1 is -7/2
        due("a half below", y.seen(1, 0, 0), 12);
        y.paint(1, 0, 7, 3);
        due("a half below 0 is 0", y.seen(1, 0, 7), 0);
    }

    // ---- texts

    private static void promise22Type() {
        promise = 22;
        PictureRing x = new PictureRing();
        due("type(0)", x.type(0), 1);
        due("type(127)", x.type(127), 2);
        due("type(-1)", x.type(-1), BAD);
        due("type(128)", x.type(128), BAD);
        for (int n = 3; n <= 120; n++) {
            due("byte " + n, x.type(32), n);
        }
        due("byte 121", x.type(32), FULL);
        due("byte 121, wrong too", x.type(128), BAD);
        due("told(2)", x.told(2), 1);
        due("told(0)", x.told(0), 3);
        due("told(3)", x.told(3), 120);
        due("no STATES", x.told(8), 0);
    }

    private static void promise23Clear() {
        promise = 23;
        PictureRing x = new PictureRing();
        due("empty", x.clear(), 0);
        typed(x, "t5;");
        due("three", x.clear(), 3);
        due("empty again", x.clear(), 0);
        due("told(3)", x.told(3), 0);
        due("no STATES", x.told(8), 0);
        for (int n = 0; n < 120; n++) {
            x.type(32);
        }
        due("full", x.clear(), 120);
        due("from the start again", x.type(32), 1);
    }

    private static void promise24Reads() {
        promise = 24;
        PictureRing x = new PictureRing();
        due("all kinds", readsOf(x, "w 5 14;s0 0-3;p0 1 2 63;c5 13 7;t9;a0;s1 1 1;x1;"), 8);
        due("one STATE for all", x.told(8), 1);
        due("THE TEXT stays", x.told(3), 48);
        due("P", x.told(4), 14);
        due("PICTURES", x.told(5), 1);
        due("T", x.told(6), 9);
        due("A", x.told(7), 0);
        due("painted", x.value(0, 1, 2), 63);
        due("dotted", x.value(NONE, 5, 13), 7);
        due("strength", x.value(0, 0, 0), Math.max(0, x.value(NONE, 0, 0) - 3));
        due("blanks everywhere", readsOf(x, "  t  9  ;  s 0  0   -0 ;  "), 2);
        due("six figures", readsOf(x, "t000009;"), 1);
        due("STATES", x.told(8), 3);
        due("40 ORDERS", readsOf(new PictureRing(), "t9;".repeat(40)), 40);
        due("40 ORDERS, the last stops", readsOf(new PictureRing(), "t9;".repeat(39) + "x0;"), -1039);
        due("back from all of it", x.back(), 2);
        faults(x);
        stops(x);
    }

    private static void faults(PictureRing x) {
        String[] texts = {"", "   ", "t", "t 5", "t 5 ", "t5;t", "t5", "s0 0 -", "T5;", "t5;;", "t;",
            "t 5 6;", "t0000005;", "w12;", "w1 2 3;", "s0 0 - 3;", "s0 -1 0;", "s-1 0 0;", "t-5;",
            "s0 0 --3;", "s0 0 3 -;", "t5,", "b5;", "s0 0 -0000005;", "t5;\t", "x 1a;", "p0 0 0;"};
        int[] faults = {0, 3, 1, 3, 4, 4, 2, 6, 0, 3, 1, 4, 7, 3, 5, 6, 3, 1, 1, 6, 7, 2, 0, 12, 3, 3, 6};
        int states = x.told(8);
        long before = x.digest();
        for (int i = 0; i < texts.length; i++) {
            due("FAULT of '" + texts[i] + "'", readsOf(x, texts[i]), -10 - faults[i]);
        }
        due("STATES after FAULTS", x.told(8), states);
        due("KIND after FAULTS", x.why(0), 0);
        due("refused by FAULTS", x.told(0) + x.told(1) + x.told(2), 0);
        typed(x, "t000009;");
        due("nothing is done", x.digest(), before);
    }

    private static void stops(PictureRing x) {
        int states = x.told(8);
        due("stopped at 0", readsOf(x, "t0;"), -1000);
        due("stopped at 1", readsOf(x, "t5;t127;"), -1001);
        due("nothing is done", x.told(6), 9);
        due("stopped at 3", readsOf(x, "w1 12;x0;x0;x0;"), -1003);
        due("PICTURES stay", x.told(5), 2);
        due("P stays", x.told(4), 14);
        due("each ORDER finds what those ahead left", readsOf(x, "w1 32;c0 31 1;s31 0 0;"), 3);
        due("STATES", x.told(8), states + 1);
        due("a number too great", readsOf(x, "s0 3 0;"), -1000);
        due("too strong", readsOf(x, "s0 0-21;"), -1000);
        due("refused by ORDERS", x.told(0) + x.told(1) + x.told(2), 0);
    }

    private static void promise25Why() {
        promise = 25;
        PictureRing x = new PictureRing();
        due("KIND at first", x.why(0), 0);
        due("ORDER at first", x.why(1), NONE);
        readsOf(x, "w1 12;t0;");
        due("KIND", x.why(0), 2);
        due("ORDER", x.why(1), 1);
        readsOf(x, "w1 12;s0 0 0;s0 0 0;s0 0 0;s0 0 0;s0 0 0;s0 0 0;s0 0 0;");
        due("KIND of FULL", x.why(0), 4);
        due("ORDER of FULL", x.why(1), 7);
        readsOf(x, "w1 12;");
        due("KIND behind ORDERS all done", x.why(0), 4);
        due("ORDER behind ORDERS all done", x.why(1), 7);
        readsOf(x, "w1");
        due("KIND behind a FAULT", x.why(0), 4);
        x.back();
        due("KIND behind a step back", x.why(0), 4);
        due("why(-1)", x.why(-1), -10);
        due("why(2)", x.why(2), -10);
        due("told(0)", x.told(0), 2);
    }

    private static void promise26Back() {
        promise = 26;
        PictureRing x = new PictureRing();
        due("none", x.back(), NO);
        due("told(1)", x.told(1), 1);
        x.world(1, 12);
        x.shot(0, 0, 0);
        due("shot is back", x.back(), 1);
        due("no PICTURE", x.told(5), 0);
        due("world is back", x.back(), 0);
        due("no WORLD", x.told(4), 0);
        due("none again", x.back(), NO);
        for (int t = 1; t <= 7; t++) {
            x.sets(0, t);
        }
        due("5 at most", x.told(8), 5);
        for (int t = 6; t >= 2; t--) {
            due("back to T " + t, x.back(), t - 2);
            due("T", x.told(6), t);
        }
        due("older ones are lost", x.back(), NO);
        x.sets(0, 2);
        due("nothing changed, a STATE yet", x.back(), 0);
        x.sets(0, 0);
        due("refused, no STATE", x.back(), NO);
        PictureRing w = new PictureRing();
        w.world(8, 32);
        int first = w.value(NONE, 0, 0);
        int last = w.value(NONE, 5, 31);
        w.dots(0, 0, 63 - first);
        w.dots(5, 31, 63 - last);
        w.back();
        due("the last dot is back", w.value(NONE, 5, 31), last);
        due("the first is not", w.value(NONE, 0, 0), 63 - first);
        w.back();
        due("the first dot is back", w.value(NONE, 0, 0), first);
        PictureRing y = threeAround(0, 0, 0);
        y.drops(1);
        y.dots(0, 0, 1);
        y.back();
        y.back();
        due("the ring is back", y.all(1), 1);
        due("and RIGHT", y.all(4), 3);
    }

    private static void promise27Told() {
        promise = 27;
        PictureRing x = new PictureRing();
        x.value(5, 0, 0);
        x.shot(0, 0, 0);
        x.back();
        x.world(1, 30);
        for (int k = 0; k <= 6; k++) {
            x.shot(0, 0, 0);
        }
        x.paint(0, 1, 1, 0);
        x.sets(0, 126);
        x.sets(1, 63);
        x.place(0, 0);
        typed(x, "t5");
        long[] told = {2, 2, 1, 2, 30, 6, 126, 63, 5};
        for (int what = 0; what < told.length; what++) {
            due("told(" + what + ")", x.told(what), told[what]);
        }
        due("told(-1)", x.told(-1), BAD);
        due("told(9)", x.told(9), BAD);
        due("they count, too", x.told(0), 4);
    }

    private static void promise28Digest() {
        promise = 28;
        due("a new object", new PictureRing().digest(), digestBy(new PictureRing()));
        PictureRing x = threeAround(1, 5, -3);
        x.value(9, 9, 9);
        x.back();
        x.shot(8, 0, -3);
        readsOf(x, "t0;");
        long want = digestBy(x);
        due("a ring", x.digest(), want);
        due("asked again", x.digest(), want);
        x.value(9, 9, 9);
        due("another count", x.digest() == want ? 1 : 0, 0);
    }

    private static long digestBy(PictureRing x) {
        long h = 2269;
        for (int what = 0; what <= 8; what++) {
            h = 31 * h + x.told(what);
        }
        h = 31 * h + x.why(0);
        h = 31 * h + x.why(1);
        for (int k = 0; k < x.told(5); k++) {
            for (int cell = 0; cell < 32; cell++) {
                h = 31 * h + x.value(k, cell / 8, cell % 8);
            }
            h = 31 * h + x.corners(k);
            h = 31 * h + x.chain(k, 0);
        }
        for (int what = 0; what <= 5; what++) {
            h = 31 * h + x.all(what);
        }
        return h;
    }
}
