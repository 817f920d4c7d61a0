/** The boundary cases of promises 1 to 8: THE WORLD, PICTURES, SHOTS, T and A. */
public final class WorldBoundaryTest {
    private static final int NONE = PictureRing.NONE, BAD = PictureRing.BAD, FULL = PictureRing.FULL;
    private static final int LEAST = Integer.MIN_VALUE, MOST = Integer.MAX_VALUE;

    private WorldBoundaryTest() { }

    public static void main(String[] args) {
        newObject();
        newObjectHasNoPictures();
        worldNumbers();
        worldDrawn();
        worldBefore();
        worldAnew();
        picturesStay();
        dotsNumbers();
        dotsWithoutWorld();
        dotsBefore();
        shotNumbers();
        shotWithoutWorld();
        shotFull();
        shotAroundTheEnd();
        shotStrength();
        paintNumbers();
        paintBefore();
        dropsNumbers();
        dropsNearer();
        dropsTakeTheShotAlong();
        dropsTakeEachShotAlong();
        setsNumbers();
        setsBefore();
        valueOfWorld();
        valueOfPicture();
        Check.end();
    }

    // ---- promise 1

    private static void newObject() {
        Check.sentence("As told; no WORLD, no PICTURES");
        long[] told = {0, 0, 0, 0, 0, 0, 8, 12, 0};
        for (int what = 0; what < told.length; what++) {
            Check.due("told(" + what + ")", new PictureRing().told(what), told[what]);
        }
        long[] all = {0, 0, 0, 6, 0, 0};
        for (int what = 0; what < all.length; what++) {
            Check.due("all(" + what + ")", new PictureRing().all(what), all[what]);
        }
        Check.due("why(0)", new PictureRing().why(0), 0);
        Check.due("why(1)", new PictureRing().why(1), NONE);
        Check.due("rest(0)", new PictureRing().rest(0), 0);
        Check.due("rest(1)", new PictureRing().rest(1), 1);
        Check.due("clear()", new PictureRing().clear(), 0);
        Check.due("reads()", new PictureRing().reads(), -10);
        Check.due("back()", new PictureRing().back(), PictureRing.NO);
        long h = 2269;
        for (int v : new int[] {0, 0, 0, 0, 0, 0, 8, 12, 0, 0, NONE, 0, 0, 0, 6, 0, 0}) {
            h = 31 * h + v;
        }
        Check.due("digest()", new PictureRing().digest(), h);
    }

    private static void newObjectHasNoPictures() {
        Check.sentence("no PICTURES: each number of one is not as told");
        PictureRing x = new PictureRing();
        Check.due("paint", x.paint(0, 0, 0, 0), BAD);
        Check.due("drops", x.drops(0), BAD);
        Check.due("value", x.value(0, 0, 0), BAD);
        Check.due("change", x.change(0, 1, 1), BAD);
        Check.due("corners", x.corners(0), BAD);
        Check.due("votes", x.votes(0, 1, 0, 1), BAD);
        Check.due("link", x.link(0, 1, 0), BAD);
        Check.due("chain", x.chain(0, 0), BAD);
        Check.due("place", x.place(0, 0), BAD);
        Check.due("overlap", x.overlap(0, 0), BAD);
        Check.due("seam", x.seam(0, 0), BAD);
        Check.due("level", x.level(0, 0), -999999);
        Check.due("shows", x.shows(0, 0), BAD);
        Check.due("seen", x.seen(0, 0, 0), BAD);
        Check.due("told(0)", x.told(0), 14);
        Check.due("told(1)", x.told(1), 0);
        Check.due("told(2)", x.told(2), 0);
    }

    // ---- promise 2

    private static void worldNumbers() {
        Check.sentence("P COLUMNS (12 .. 32), SEED (0 .. 999999)");
        int[][] right = {{0, 12}, {999999, 12}, {0, 32}, {999999, 32}};
        for (int[] n : right) {
            PictureRing x = new PictureRing();
            Check.due("world(" + n[0] + ", " + n[1] + ")", x.world(n[0], n[1]), 0);
            Check.due("P", x.told(4), n[1]);
            Check.due("STATES", x.told(8), 1);
        }
        int[][] wrong = {{-1, 12}, {1000000, 12}, {0, 11}, {0, 33}, {-1, 32}, {1000000, 32}, {999999, 33},
            {0, 0}, {0, -12}, {LEAST, 12}, {MOST, 12}, {0, LEAST}, {0, MOST}, {-1, 33}};
        PictureRing x = new PictureRing();
        for (int[] n : wrong) {
            Check.due("world(" + n[0] + ", " + n[1] + ")", x.world(n[0], n[1]), BAD);
        }
        Check.due("P", x.told(4), 0);
        Check.due("STATES", x.told(8), 0);
        Check.due("told(0)", x.told(0), wrong.length);
    }

    private static void worldDrawn() {
        Check.sentence("drawn, COLUMN by COLUMN from 0 on, each from ROW 0 down");
        int[] seeds = {0, 1, 999999, 999998};
        int[][] first = {{0, 28, 4, 37, 42, 31, 45, 29, 26, 26, 37, 44}, {6, 62, 1, 43, 11, 59, 34, 59, 20, 54, 61, 31},
            {40, 22, 55, 63, 14, 29, 63, 45, 8, 60, 25, 17}, {34, 51, 57, 57, 44, 1, 9, 15, 14, 31, 1, 30}};
        int[][] last = {{31, 60, 57, 53, 61, 11, 20, 40, 10, 9, 60, 4}, {15, 31, 63, 54, 46, 3, 56, 13, 13, 58, 62, 38},
            {5, 13, 58, 4, 40, 15, 36, 3, 16, 20, 28, 17}, {15, 3, 50, 57, 14, 12, 31, 30, 38, 11, 30, 28}};
        for (int i = 0; i < seeds.length; i++) {
            PictureRing x = new PictureRing();
            int p = i < 2 ? 12 : 32;
            x.world(seeds[i], p);
            for (int n = 0; n < 12; n++) {
                String of = "seed " + seeds[i] + ", drawn " + n;
                Check.due(of, x.value(NONE, n % 6, n / 6), first[i][n]);
                Check.due(of + " of the last two COLUMNS", x.value(NONE, n % 6, p - 2 + n / 6), last[i][n]);
            }
        }
    }

    private static void worldBefore() {
        Check.sentence("P as it was (0: none)");
        PictureRing x = new PictureRing();
        Check.due("the first", x.world(1, 32), 0);
        Check.due("behind 32", x.world(1, 12), 32);
        Check.due("behind 12", x.world(1, 13), 12);
        x.world(1, 33);
        Check.due("behind a refused one", x.world(1, 13), 13);
        Check.due("behind itself", x.world(1, 13), 13);
    }

    private static void worldAnew() {
        Check.sentence("THE WORLD has P COLUMNS, its VALUES are drawn (all of them, anew)");
        PictureRing x = new PictureRing();
        x.world(5, 32);
        x.dots(0, 0, 63);
        x.dots(5, 11, 63);
        x.world(0, 12);
        Check.due("a VALUE put before", x.value(NONE, 0, 0), 0);
        Check.due("the last one", x.value(NONE, 5, 11), 4);
        Check.due("a COLUMN that is no more", x.value(NONE, 0, 12), BAD);
        x.world(999999, 32);
        Check.due("the last COLUMN is there again", x.value(NONE, 5, 31), 17);
    }

    private static void picturesStay() {
        Check.sentence("(PICTURES stay.)");
        PictureRing x = new PictureRing();
        x.world(0, 12);
        for (int k = 0; k < 6; k++) {
            x.shot(k, 0, 0);
        }
        x.world(1, 32);
        Check.due("PICTURES", x.told(5), 6);
        Check.due("the first VALUE", x.value(0, 0, 0), 0);
        Check.due("the next", x.value(0, 1, 0), 28);
        Check.due("of the last PICTURE", x.value(5, 0, 7), 0);
    }

    // ---- promise 3

    private static void dotsNumbers() {
        Check.sentence("dots. BAD (COLUMNS as there are)");
        for (int p : new int[] {12, 20, 32}) {
            PictureRing x = new PictureRing();
            x.world(7, p);
            int[][] right = {{0, 0, 0}, {5, 0, 63}, {0, p - 1, 63}, {5, p - 1, 0}};
            for (int[] n : right) {
                Check.due("dots(" + n[0] + ", " + n[1] + ", " + n[2] + ") is done", x.dots(n[0], n[1], n[2]) >= 0 ? 1 : 0, 1);
                Check.due("and stands", x.value(NONE, n[0], n[1]), n[2]);
            }
            int[][] wrong = {{-1, 0, 0}, {6, 0, 0}, {0, -1, 0}, {0, p, 0}, {0, 0, -1}, {0, 0, 64},
                {6, p - 1, 63}, {5, p, 63}, {5, p - 1, 64}, {LEAST, 0, 0}, {MOST, 0, 0}, {0, LEAST, 0},
                {0, MOST, 0}, {0, 0, LEAST}, {0, 0, MOST}};
            for (int[] n : wrong) {
                Check.due("P " + p + ": dots(" + n[0] + ", " + n[1] + ", " + n[2] + ")", x.dots(n[0], n[1], n[2]), BAD);
            }
            Check.due("told(0)", x.told(0), wrong.length);
            Check.due("STATES", x.told(8), 5);
        }
    }

    private static void dotsWithoutWorld() {
        Check.sentence("dots (none: all are BAD)");
        PictureRing x = new PictureRing();
        for (int c = 0; c < 12; c++) {
            Check.due("COLUMN " + c, x.dots(0, c, 0), BAD);
        }
        Check.due("STATES", x.told(8), 0);
        x.world(1, 12);
        x.back();
        Check.due("none again", x.dots(0, 0, 0), BAD);
    }

    private static void dotsBefore() {
        Check.sentence("A VALUE of THE WORLD: what it was. S.");
        PictureRing x = new PictureRing();
        x.world(0, 12);
        Check.due("as drawn", x.dots(1, 0, 63), 28);
        Check.due("as put", x.dots(1, 0, 0), 63);
        x.dots(1, 0, 64);
        Check.due("a refused one does nothing", x.dots(1, 0, 0), 0);
        Check.due("nothing changes by it, a STATE yet", x.told(8), 4);
        x.shot(0, 0, 0);
        x.dots(1, 0, 50);
        Check.due("a PICTURE taken before stays", x.value(0, 1, 0), 0);
    }

    // ---- promise 4

    private static void shotNumbers() {
        Check.sentence("x (0 .. P less 1), y (0 .. 2), d (-20 .. 20)");
        for (int p : new int[] {12, 31, 32}) {
            int[][] right = {{0, 0, 0}, {p - 1, 0, 0}, {0, 2, 0}, {0, 0, -20}, {0, 0, 20}, {p - 1, 2, -20}};
            PictureRing x = new PictureRing();
            x.world(3, p);
            for (int k = 0; k < 6; k++) {
                Check.due("P " + p + ": shot(" + right[k][0] + ", " + right[k][1] + ", " + right[k][2] + ")",
                        x.shot(right[k][0], right[k][1], right[k][2]), k);
            }
            PictureRing y = new PictureRing();
            y.world(3, p);
            int[][] wrong = {{-1, 0, 0}, {p, 0, 0}, {0, -1, 0}, {0, 3, 0}, {0, 0, -21}, {0, 0, 21}, {p, 2, 20},
                {p - 1, 3, 20}, {p - 1, 2, 21}, {LEAST, 0, 0}, {MOST, 0, 0}, {0, LEAST, 0}, {0, MOST, 0},
                {0, 0, LEAST}, {0, 0, MOST}};
            for (int[] n : wrong) {
                Check.due("P " + p + ": shot(" + n[0] + ", " + n[1] + ", " + n[2] + ")", y.shot(n[0], n[1], n[2]), BAD);
            }
            Check.due("PICTURES", y.told(5), 0);
            Check.due("STATES", y.told(8), 1);
            Check.due("told(0)", y.told(0), wrong.length);
        }
        PictureRing z = new PictureRing();
        z.world(3, 32);
        z.world(3, 12);
        Check.due("P is that of now", z.shot(12, 0, 0), BAD);
        Check.due("and its last COLUMN is there", z.shot(11, 0, 0), 0);
    }

    private static void shotWithoutWorld() {
        Check.sentence("BAD (without THE WORLD every x is)");
        PictureRing x = new PictureRing();
        for (int s = -1; s <= 32; s++) {
            Check.due("shot(" + s + ", 0, 0)", x.shot(s, 0, 0), BAD);
        }
        Check.due("told(0)", x.told(0), 34);
        Check.due("PICTURES", x.told(5), 0);
        x.world(0, 12);
        for (int k = 0; k < 4; k++) {
            x.shot(0, 0, 0);
        }
        for (int k = 0; k < 5; k++) {
            x.back();
        }
        Check.due("THE WORLD taken back", x.shot(0, 0, 0), BAD);
    }

    private static void shotFull() {
        Check.sentence("the number of the PICTURE. FULL: 6");
        PictureRing x = sixShots();
        Check.due("a seventh", x.shot(0, 0, 0), FULL);
        Check.due("a seventh, x not as told", x.shot(12, 0, 0), BAD);
        Check.due("a seventh, y not as told", x.shot(0, 3, 0), BAD);
        Check.due("a seventh, d not as told", x.shot(0, 0, 21), BAD);
        Check.due("told(2)", x.told(2), 1);
        Check.due("told(0)", x.told(0), 3);
        Check.same("nothing changed", Scenes.seenOf(x), Scenes.seenOf(sixShots()));
        x.drops(5);
        Check.due("there is room again", x.shot(0, 0, 0), 5);
        Check.due("FULL again", x.shot(0, 0, 0), FULL);
        x.back();
        Check.due("one taken back", x.shot(0, 0, 0), 5);
    }

    private static PictureRing sixShots() {
        PictureRing x = new PictureRing();
        x.world(0, 12);
        for (int k = 0; k < 6; k++) {
            Check.due("number " + k, x.shot(k, 0, 0), k);
        }
        return x;
    }

    private static void shotAroundTheEnd() {
        Check.sentence("CELL r, c is THE WORLD's in ROW y and r, COLUMN x and c (by P left over)");
        for (int p : new int[] {12, 13, 32}) {
            for (int s : new int[] {0, p - 9, p - 8, p - 7, p - 6, p - 1}) {
                for (int y = 0; y <= 2; y++) {
                    PictureRing x = new PictureRing();
                    x.world(11, p);
                    x.shot(s, y, 0);
                    for (int c = 0; c < 8; c++) {
                        String cell = "P " + p + ", x " + s + ", y " + y + ", COLUMN " + c;
                        int column = s + c >= p ? s + c - p : s + c;
                        Check.due(cell + ", the first ROW", x.value(0, 0, c), x.value(NONE, y, column));
                        Check.due(cell + ", the last ROW", x.value(0, 3, c), x.value(NONE, y + 3, column));
                    }
                }
            }
        }
        PictureRing x = new PictureRing();
        x.world(0, 12);
        x.dots(0, 11, 61);
        x.dots(0, 0, 62);
        x.shot(4, 0, 0);
        x.shot(5, 0, 0);
        x.shot(11, 0, 0);
        Check.due("COLUMN 11 is the last of x 4", x.value(0, 0, 7), 61);
        Check.due("COLUMN 11 lies ahead of the last of x 5", x.value(1, 0, 6), 61);
        Check.due("COLUMN 0 lies beside it", x.value(1, 0, 7), 62);
        Check.due("x 11 begins with it", x.value(2, 0, 0), 61);
        Check.due("and goes on with COLUMN 0", x.value(2, 0, 1), 62);
    }

    private static void shotStrength() {
        Check.sentence("and d more (0, if that is below it, 63, if it is above)");
        int[][] cells = {{19, -20, 0}, {20, -20, 0}, {21, -20, 1}, {0, -1, 0}, {1, -1, 0}, {0, -20, 0},
            {42, 20, 62}, {43, 20, 63}, {44, 20, 63}, {63, 1, 63}, {62, 1, 63}, {63, 20, 63},
            {0, 0, 0}, {63, 0, 63}, {63, -20, 43}, {0, 20, 20}};
        for (int[] n : cells) {
            PictureRing x = new PictureRing();
            x.world(0, 12);
            x.dots(2, 5, n[0]);
            x.shot(5, 2, n[1]);
            Check.due("VALUE " + n[0] + " of strength " + n[1], x.value(0, 0, 0), n[2]);
            Check.due("THE WORLD's stays", x.value(NONE, 2, 5), n[0]);
        }
    }

    // ---- promise 5

    private static void paintNumbers() {
        Check.sentence("paint: A VALUE of a PICTURE. BAD.");
        for (int n = 1; n <= 6; n += 5) {
            int[][] right = {{0, 0, 0, 63}, {n - 1, 3, 0, 63}, {n - 1, 0, 7, 1}, {0, 3, 7, 0}};
            PictureRing x = Scenes.blank(n);
            for (int[] w : right) {
                x.paint(w[0], w[1], w[2], w[3]);
                Check.due("painted", x.value(w[0], w[1], w[2]), w[3]);
            }
            PictureRing y = Scenes.blank(n);
            int[][] wrong = {{-1, 0, 0, 0}, {n, 0, 0, 0}, {0, -1, 0, 0}, {0, 4, 0, 0}, {0, 0, -1, 0}, {0, 0, 8, 0},
                {0, 0, 0, -1}, {0, 0, 0, 64}, {n, 3, 7, 63}, {n - 1, 4, 7, 63}, {n - 1, 3, 8, 63}, {n - 1, 3, 7, 64},
                {LEAST, 0, 0, 0}, {MOST, 0, 0, 0}, {0, LEAST, 0, 0}, {0, MOST, 0, 0}, {0, 0, LEAST, 0},
                {0, 0, MOST, 0}, {0, 0, 0, LEAST}, {0, 0, 0, MOST}};
            for (int[] w : wrong) {
                Check.due(n + " PICTURES, paint of " + java.util.Arrays.toString(w), y.paint(w[0], w[1], w[2], w[3]), BAD);
            }
            Check.due("told(0)", y.told(0), wrong.length);
            Check.same("nothing changed", Scenes.seenOf(y), Scenes.seenOf(Scenes.blank(n)));
        }
    }

    private static void paintBefore() {
        Check.sentence("paint: what it was. S.");
        PictureRing x = Scenes.blank(2);
        Check.due("as shot", x.paint(1, 3, 7, 63), 0);
        Check.due("as painted", x.paint(1, 3, 7, 0), 63);
        Check.due("of the other PICTURE", x.paint(0, 3, 7, 5), 0);
        x.back();
        x.back();
        Check.due("taken back", x.paint(1, 3, 7, 63), 63);
        Check.due("nothing changes by it, a STATE yet", x.told(8), 4);
        Check.due("THE WORLD stays", x.value(NONE, 3, 7), 0);
    }

    // ---- promise 6

    private static void dropsNumbers() {
        Check.sentence("drops: how many are left. BAD.");
        PictureRing x = Scenes.blank(6);
        Check.due("drops(-1)", x.drops(-1), BAD);
        Check.due("drops(6)", x.drops(6), BAD);
        Check.due("drops(LEAST)", x.drops(LEAST), BAD);
        Check.due("drops(MOST)", x.drops(MOST), BAD);
        Check.due("drops(5), the last", x.drops(5), 5);
        Check.due("drops(5), gone", x.drops(5), BAD);
        for (int left = 4; left >= 0; left--) {
            Check.due("drops(0)", x.drops(0), left);
        }
        Check.due("nothing is there yet", x.drops(0), BAD);
        Check.due("STATES", x.told(8), 5);
        Check.due("told(0)", x.told(0), 6);
        Check.due("the next is PICTURE 0", x.shot(0, 0, 0), 0);
    }

    private static void dropsNearer() {
        Check.sentence("A PICTURE goes (those behind it are one nearer)");
        for (int gone = 0; gone < 6; gone++) {
            PictureRing x = Scenes.blank(6);
            for (int k = 0; k < 6; k++) {
                x.paint(k, 0, 0, 10 + k);
                x.paint(k, 3, 7, 20 + k);
            }
            Check.due("drops(" + gone + ")", x.drops(gone), 5);
            for (int k = 0; k < 5; k++) {
                int was = k < gone ? k : k + 1;
                Check.due(gone + " gone, the first VALUE of " + k, x.value(k, 0, 0), 10 + was);
                Check.due(gone + " gone, the last VALUE of " + k, x.value(k, 3, 7), 20 + was);
            }
            Check.due("the last is none", x.value(5, 0, 0), BAD);
        }
    }

    private static void dropsTakeTheShotAlong() {
        Check.sentence("x, y, P are kept of it as told (by a PICTURE that is one nearer, too)");
        int[][] ahead = {{0, 0, 12}, {3, 2, 13}};
        for (int[] other : ahead) {
            PictureRing x = new PictureRing();
            x.world(0, other[2]);
            x.shot(other[0], other[1], 0);
            x.world(0, 14);
            for (int c = 0; c < 14; c++) {
                for (int r = 0; r < 6; r++) {
                    x.dots(r, c, 0);
                }
            }
            x.shot(12, 0, 0);
            x.shot(2, 1, 0);
            x.drops(0);
            Scenes.mark(x, 0, 1, 1, 4, 40);
            Check.due("the LINK is taken", x.all(0), 1);
            Check.due("RIGHT by x, y and P", x.all(4), 1);
            x.drops(0);
            x.shot(6, 2, 0);
            Scenes.mark(x, 0, 1, 1, 4, 50);
            Check.due("RIGHT by those of the one that was second", x.all(4), 1);
        }
    }

    private static void dropsTakeEachShotAlong() {
        Check.sentence("x, y, P are kept of it as told (whichever goes, and whichever are one nearer)");
        for (int gone = 0; gone < 6; gone++) {
            for (int n = 0; n < 36; n++) {
                int a = n / 6;
                int b = n % 6;
                if (a < b && a != gone && b != gone) {
                    PictureRing x = twoOfSix(a, b);
                    x.drops(gone);
                    brightest(x, a < gone ? a : a - 1, 2, 6);
                    brightest(x, b < gone ? b : b - 1, 1, 2);
                    rightOne(gone + " gone, from " + a + " to " + b, x);
                    PictureRing y = twoOfSix(a, b);
                    y.drops(gone);
                    y.back();
                    brightest(y, a, 2, 6);
                    brightest(y, b, 1, 2);
                    rightOne(gone + " taken back, from " + a + " to " + b, y);
                }
            }
        }
    }

    private static void rightOne(String of, PictureRing x) {
        Check.due(of + ": the LINK is taken", x.all(0), 1);
        Check.due(of + ": RIGHT", x.all(4), 1);
    }

    /** Six PICTURES, of which two alone were shot 1 ROW and 4 COLUMNS apart, in a P of their own. */
    private static PictureRing twoOfSix(int a, int b) {
        PictureRing x = new PictureRing();
        x.sets(0, 126);
        for (int k = 0; k < 6; k++) {
            x.world(k, k == a || k == b ? 14 : 20 + k);
            x.shot(k == a ? 12 : k == b ? 2 : 5 + k, k == a ? 0 : k == b ? 1 : 2, 0);
        }
        return x;
    }

    /** A CELL of 63 among 0: a CORNER by T 126, as no drawn VALUES make one. */
    private static void brightest(PictureRing x, int k, int r, int c) {
        for (int n = 0; n < 9; n++) {
            x.paint(k, r - 1 + n / 3, c - 1 + n % 3, n == 4 ? 63 : 0);
        }
    }

    // ---- promise 7

    private static void setsNumbers() {
        Check.sentence("T (1 .. 126), A (0 .. 63); T (what 0), A (1). BAD.");
        PictureRing x = new PictureRing();
        int[][] wrong = {{0, 0}, {0, 127}, {0, -1}, {0, LEAST}, {0, MOST}, {1, -1}, {1, 64}, {1, LEAST}, {1, MOST},
            {-1, 10}, {2, 10}, {LEAST, 10}, {MOST, 10}};
        for (int[] n : wrong) {
            Check.due("sets(" + n[0] + ", " + n[1] + ")", x.sets(n[0], n[1]), BAD);
        }
        Check.due("T", x.told(6), 8);
        Check.due("A", x.told(7), 12);
        Check.due("STATES", x.told(8), 0);
        Check.due("told(0)", x.told(0), wrong.length);
        int[][] right = {{0, 1}, {0, 126}, {1, 0}, {1, 63}};
        for (int[] n : right) {
            Check.due("sets(" + n[0] + ", " + n[1] + ") is done", x.sets(n[0], n[1]) >= 0 ? 1 : 0, 1);
            Check.due("and stands", x.told(6 + n[0]), n[1]);
        }
        Check.due("STATES", x.told(8), 4);
    }

    private static void setsBefore() {
        Check.sentence("(8 at first), (12 at first): what it was. S.");
        PictureRing x = new PictureRing();
        Check.due("T at first", x.sets(0, 126), 8);
        Check.due("A at first", x.sets(1, 63), 12);
        Check.due("T", x.sets(0, 126), 126);
        Check.due("A", x.sets(1, 63), 63);
        x.sets(0, 127);
        x.sets(1, 64);
        Check.due("T behind a refused one", x.sets(0, 1), 126);
        Check.due("A behind a refused one", x.sets(1, 0), 63);
    }

    // ---- promise 8

    private static void valueOfWorld() {
        Check.sentence("value: A VALUE of THE WORLD (k NONE). BAD.");
        PictureRing none = new PictureRing();
        Check.due("no WORLD", none.value(NONE, 0, 0), BAD);
        for (int p : new int[] {12, 32}) {
            PictureRing x = new PictureRing();
            x.world(999999, p);
            x.dots(5, p - 1, 33);
            x.dots(0, p - 1, 34);
            x.dots(5, 0, 35);
            Check.due("the last of all", x.value(NONE, 5, p - 1), 33);
            Check.due("the last COLUMN", x.value(NONE, 0, p - 1), 34);
            Check.due("the last ROW", x.value(NONE, 5, 0), 35);
            Check.due("the first", x.value(NONE, 0, 0), 40);
            int[][] wrong = {{-1, 0}, {6, 0}, {0, -1}, {0, p}, {6, p - 1}, {5, p}, {LEAST, 0}, {MOST, 0}, {0, LEAST}, {0, MOST}};
            for (int[] n : wrong) {
                Check.due("P " + p + ": value(NONE, " + n[0] + ", " + n[1] + ")", x.value(NONE, n[0], n[1]), BAD);
            }
            Check.due("told(0)", x.told(0), wrong.length);
            Check.due("STATES", x.told(8), 4);
        }
    }

    private static void valueOfPicture() {
        Check.sentence("value: of a PICTURE. BAD.");
        for (int n = 1; n <= 6; n += 5) {
            PictureRing x = Scenes.blank(n);
            x.paint(n - 1, 3, 7, 33);
            x.paint(n - 1, 0, 0, 34);
            Check.due("the last of all", x.value(n - 1, 3, 7), 33);
            Check.due("the first of it", x.value(n - 1, 0, 0), 34);
            int[][] wrong = {{-2, 0, 0}, {n, 0, 0}, {0, -1, 0}, {0, 4, 0}, {0, 5, 0}, {0, 0, -1}, {0, 0, 8}, {0, 0, 11},
                {LEAST, 0, 0}, {MOST, 0, 0}, {0, LEAST, 0}, {0, MOST, 0}, {0, 0, LEAST}, {0, 0, MOST}};
            for (int[] w : wrong) {
                Check.due(n + " PICTURES, value of " + java.util.Arrays.toString(w), x.value(w[0], w[1], w[2]), BAD);
            }
            Check.due("told(0)", x.told(0), wrong.length);
        }
    }
}
