/** Objects to ask: WORLDS and PICTURES made so that corners, LINKS and the ring lie where a test wants them. */
final class Scenes {
    private static final int ROWS = 4, COLUMNS = 8;

    private Scenes() { }

    /** A WORLD of one VALUE all over. */
    static PictureRing flat(int p, int v) {
        PictureRing x = new PictureRing();
        x.world(0, p);
        for (int c = 0; c < p; c++) {
            for (int r = 0; r < 6; r++) {
                x.dots(r, c, v);
            }
        }
        return x;
    }

    /** As many PICTURES of VALUES 0, without a CORNER. */
    static PictureRing blank(int pictures) {
        return blankAt(12, new int[pictures][2]);
    }

    /** PICTURES of VALUES 0, shot at the places x, y that are told. */
    static PictureRing blankAt(int p, int[][] shots) {
        PictureRing x = flat(p, 0);
        for (int[] shot : shots) {
            x.shot(shot[0], shot[1], 0);
        }
        return x;
    }

    /** One bright CELL in each of two PICTURES, which votes for b at the SHIFT e, f alone. */
    static void mark(PictureRing x, int a, int b, int e, int f, int v) {
        int r = e == 1 ? 2 : 1;
        x.paint(a, r, 6, v);
        x.paint(b, r - e, 6 - f, v);
    }

    /**
     * Marks that link each PICTURE of the order to the next by the SHIFT told for it, the last to the
     * first if there is a SHIFT for it. Each LINK has a VALUE of its own, and A 0 keeps them apart.
     */
    static PictureRing join(PictureRing x, int[] order, int[][] shifts) {
        x.sets(1, 0);
        for (int i = 0; i < shifts.length; i++) {
            mark(x, order[i], order[(i + 1) % order.length], shifts[i][0], shifts[i][1], 10 * (i + 1));
        }
        return x;
    }

    /** A ring of blank PICTURES, one behind the other by the SHIFTS e, f told. */
    static PictureRing ring(int[]... shifts) {
        return join(blank(shifts.length), counting(shifts.length), shifts);
    }

    /** As a ring, but open: the last PICTURE has no FOLLOWER. */
    static PictureRing row(int[]... shifts) {
        return join(blank(shifts.length + 1), counting(shifts.length + 1), shifts);
    }

    static int[] counting(int n) {
        int[] numbers = new int[n];
        for (int i = 0; i < n; i++) {
            numbers[i] = i;
        }
        return numbers;
    }

    /** THE TEXT is told anew. */
    static PictureRing typed(PictureRing x, String text) {
        x.clear();
        for (int i = 0; i < text.length(); i++) {
            x.type(text.charAt(i));
        }
        return x;
    }

    static int readsOf(PictureRing x, String text) {
        return typed(x, text).reads();
    }

    /** All that can be seen of an object, but for how often it refused; it asks nothing that is refused. */
    static long[] seenOf(PictureRing x) {
        long[] all = new long[700];
        int n = 0;
        for (int what = 3; what <= 8; what++) {
            all[n++] = x.told(what);
        }
        all[n++] = x.why(0);
        all[n++] = x.why(1);
        int p = x.told(4);
        for (int c = 0; c < p; c++) {
            for (int r = 0; r < 6; r++) {
                all[n++] = x.value(PictureRing.NONE, r, c);
            }
        }
        for (int what = 0; what <= 5; what++) {
            all[n++] = x.all(what);
        }
        all[n++] = x.rest(0);
        all[n++] = x.rest(1);
        int pictures = x.told(5);
        for (int k = 0; k < pictures; k++) {
            n = seenOfPicture(x, k, all, n);
        }
        return java.util.Arrays.copyOf(all, n);
    }

    private static int seenOfPicture(PictureRing x, int k, long[] all, int from) {
        int n = from;
        for (int r = 0; r < ROWS; r++) {
            for (int c = 0; c < COLUMNS; c++) {
                all[n++] = x.value(k, r, c);
            }
            all[n++] = x.shows(k, r);
        }
        all[n++] = x.corners(k);
        all[n++] = x.chain(k, 0);
        all[n++] = x.chain(k, 1);
        all[n++] = x.level(k, 0);
        all[n++] = x.level(k, 1);
        return n;
    }

    /** All that follows from the PICTURES, T and A; it asks nothing that is refused. */
    static long[] derivedOf(PictureRing x) {
        long[] all = new long[200];
        int n = 0;
        for (int what = 0; what <= 5; what++) {
            all[n++] = x.all(what);
        }
        all[n++] = x.rest(0);
        all[n++] = x.rest(1);
        int pictures = x.told(5);
        boolean closed = all[1] == 1;
        for (int k = 0; k < pictures; k++) {
            all[n++] = x.corners(k);
            all[n++] = x.chain(k, 0);
            boolean followed = all[n - 1] != PictureRing.NONE;
            all[n++] = x.chain(k, 1);
            for (int what = 0; what <= 1; what++) {
                all[n++] = x.level(k, what);
                all[n++] = closed ? x.place(k, what) : 0;
            }
            for (int r = 0; r < ROWS; r++) {
                all[n++] = x.shows(k, r);
                all[n++] = followed ? x.seam(k, r) : 0;
                all[n++] = followed ? x.overlap(k, r) : 0;
            }
        }
        return java.util.Arrays.copyOf(all, n);
    }
}
