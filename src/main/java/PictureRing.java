/** Pictures joined to a ring; ../shared/DOC.md tells what each call answers. */
public final class PictureRing {
    public static final int NONE = -1, BAD = -2, NO = -3, FULL = -4;

    private static final int WORLD_ROWS = 6, LEAST_COLUMNS = 12, MOST_COLUMNS = 32;
    private static final int PICTURES = 6, ROWS = 4, COLUMNS = 8, CELLS = 32;
    private static final int TOP = 63, MOST_SEED = 999999, MOST_Y = 2, MOST_STRENGTH = 20;
    private static final int MOST_T = 126, MOST_E = 1, MOST_F = 5, INNER = 6, CORNERS = 12;
    private static final int STATES = 5, BYTES = 120, MOST_FIGURES = 6;
    private static final int MOST_ORDERS = 40, NUMBERS = 4, STRENGTH_AT = 2;
    private static final int BLANK = 32;

    private final Scene scene;
    private final History history;
    private final Links links;
    private final Chain ring;
    private final Seams seams;
    private final Levels levels;
    private final Orders orders;
    private final int[] text;
    private final int[] refused;
    private int length;
    private int causeKind;
    private int causeOrder;
    private boolean fresh;

    public PictureRing() {
        scene = new Scene();
        history = new History();
        links = new Links();
        ring = new Chain();
        seams = new Seams();
        levels = new Levels();
        orders = new Orders();
        text = new int[BYTES];
        refused = new int[3];
        causeOrder = NONE;
    }

    // ---- the world and pictures

    public int world(int seed, int p) {
        history.hold(scene);
        return settle(scene.drawWorld(seed, p));
    }

    public int dots(int r, int c, int v) {
        history.hold(scene);
        return settle(scene.putDot(r, c, v));
    }

    public int shot(int x, int y, int d) {
        history.hold(scene);
        return settle(scene.takeShot(x, y, d));
    }

    public int paint(int k, int r, int c, int v) {
        history.hold(scene);
        return settle(scene.putCell(k, r, c, v));
    }

    public int drops(int k) {
        history.hold(scene);
        return settle(scene.dropPicture(k));
    }

    public int sets(int what, int v) {
        history.hold(scene);
        return settle(scene.setNumber(what, v));
    }

    public int value(int k, int r, int c) {
        if (k == NONE) {
            return scene.hasDot(r, c) ? scene.dotAt(r, c) : refuse(BAD);
        }
        return scene.hasCell(k, r, c) ? scene.cellAt(k, r, c) : refuse(BAD);
    }

    // ---- corners and links

    public int change(int k, int r, int c) {
        if (!scene.hasPicture(k) || !isInner(r, c)) {
            return refuse(BAD);
        }
        return Links.changeAt(scene, k, r, c);
    }

    public int corners(int k) {
        if (!scene.hasPicture(k)) {
            return refuse(BAD);
        }
        refresh();
        return links.cornerBits(k);
    }

    public int votes(int a, int b, int e, int f) {
        if (!isPair(a, b) || !within(e, -MOST_E, MOST_E) || !within(f, 1, MOST_F)) {
            return refuse(BAD);
        }
        refresh();
        return links.countVotes(scene, a, b, e, f);
    }

    public int link(int a, int b, int what) {
        if (!isPair(a, b) || !within(what, 0, 2)) {
            return refuse(BAD);
        }
        refresh();
        int most = links.votesOf(a, b);
        if (what == 0) {
            return most;
        }
        if (most == 0) {
            return NONE;
        }
        return what == 1 ? links.shiftE(a, b) + 1 : links.shiftF(a, b);
    }

    // ---- the chain

    public int chain(int k, int what) {
        if (!scene.hasPicture(k) || !within(what, 0, 1)) {
            return refuse(BAD);
        }
        refresh();
        return what == 0 ? ring.followerOf(k) : ring.aheadOf(k);
    }

    public int all(int what) {
        if (!within(what, 0, 5)) {
            return refuse(BAD);
        }
        refresh();
        return aboutAll(what);
    }

    public int place(int k, int what) {
        if (!scene.hasPicture(k) || !within(what, 0, 1)) {
            return refuse(BAD);
        }
        refresh();
        if (!ring.closed) {
            return refuse(NO);
        }
        return what == 0 ? ring.rightOf(k) : ring.lowerOf(k) + 20;
    }

    // ---- seams and levels

    public int overlap(int k, int what) {
        if (!scene.hasPicture(k) || !within(what, 0, 3)) {
            return refuse(BAD);
        }
        refresh();
        if (ring.followerOf(k) == NONE) {
            return refuse(NO);
        }
        switch (what) {
            case 0: return seams.cellsOf(k);
            case 1: return seams.apartOf(k);
            case 2: return seams.seamCostOf(k);
            default: return seams.surplusOf(k) + 2000;
        }
    }

    public int seam(int k, int r) {
        if (!scene.hasPicture(k) || !within(r, 0, ROWS - 1)) {
            return refuse(BAD);
        }
        refresh();
        if (ring.followerOf(k) == NONE) {
            return refuse(NO);
        }
        return seams.columnAt(k, r);
    }

    public long level(int k, int what) {
        if (!scene.hasPicture(k) || !within(what, 0, 1)) {
            refuse(BAD);
            return -999999;
        }
        refresh();
        return what == 0 ? levels.aboveOf(k) : levels.belowOf(k);
    }

    public long rest(int what) {
        if (!within(what, 0, 1)) {
            return refuse(BAD);
        }
        refresh();
        return what == 0 ? levels.restAbove : levels.restBelow;
    }

    public int shows(int k, int r) {
        if (!scene.hasPicture(k) || !within(r, 0, ROWS - 1)) {
            return refuse(BAD);
        }
        refresh();
        int bits = 0;
        int end = lastShown(k, r);
        for (int c = Math.max(firstShown(k, r), 0); c < COLUMNS && c <= end; c++) {
            bits |= 1 << c;
        }
        return bits;
    }

    public int seen(int k, int r, int c) {
        if (!scene.hasCell(k, r, c)) {
            return refuse(BAD);
        }
        refresh();
        long below = levels.belowOf(k);
        long sum = scene.cellAt(k, r, c) * below + levels.aboveOf(k);
        return (int) Math.max(0, Math.min(TOP, nearest(sum, below)));
    }

    // ---- texts

    public int type(int c) {
        if (!within(c, 0, 127)) {
            return refuse(BAD);
        }
        if (length < 0 || length >= BYTES) {
            return refuse(FULL);
        }
        text[length] = c;
        length++;
        return length;
    }

    public int clear() {
        int had = length;
        length = 0;
        return had;
    }

    public int reads() {
        int fault = orders.findFault(text, length);
        if (fault != NONE) {
            return -10 - fault;
        }
        history.hold(scene);
        int stop = orders.carryOut(scene);
        if (stop != NONE) {
            history.release(scene);
            causeKind = orders.stopKind;
            causeOrder = stop;
            return -1000 - stop;
        }
        return settle(orders.count);
    }

    public int why(int what) {
        if (!within(what, 0, 1)) {
            refuse(BAD);
            return -10;
        }
        return what == 0 ? causeKind : causeOrder;
    }

    public int back() {
        if (history.count == 0) {
            return refuse(NO);
        }
        history.goBack(scene);
        fresh = false;
        return history.count;
    }

    public int told(int what) {
        return within(what, 0, 8) ? aboutObject(what) : refuse(BAD);
    }

    public long digest() {
        refresh();
        long h = 2269;
        for (int what = 0; what <= 8; what++) {
            h = 31 * h + aboutObject(what);
        }
        h = 31 * h + causeKind;
        h = 31 * h + causeOrder;
        for (int k = 0; k < scene.count; k++) {
            h = digestPicture(h, k);
        }
        for (int what = 0; what <= 5; what++) {
            h = 31 * h + aboutAll(what);
        }
        return h;
    }

    // ---- what several calls share

    /** Ends a call told S: refused, or done with a STATE left behind. */
    private int settle(int answer) {
        if (answer < 0) {
            return refuse(answer);
        }
        history.keep();
        fresh = false;
        return answer;
    }

    private int refuse(int kind) {
        int at = BAD - kind;
        if (at >= 0 && at < refused.length) {
            refused[at]++;
        }
        return kind;
    }

    /** What follows from the scene is worked out once for all questions up to the next change. */
    private void refresh() {
        if (fresh) {
            return;
        }
        links.find(scene);
        ring.join(scene, links);
        seams.cut(scene, ring);
        levels.agree(scene.count, ring, seams);
        fresh = true;
    }

    private boolean isPair(int a, int b) {
        return scene.hasPicture(a) && scene.hasPicture(b) && a != b;
    }

    private int aboutAll(int what) {
        switch (what) {
            case 0: return ring.taken;
            case 1: return ring.closed ? 1 : 0;
            case 2: return ring.turn;
            case 3: return ring.drift + 6;
            case 4: return ring.right;
            default: return scene.count - ring.taken;
        }
    }

    private int aboutObject(int what) {
        switch (what) {
            case 0: return refused[0];
            case 1: return refused[1];
            case 2: return refused[2];
            case 3: return length;
            case 4: return scene.columns;
            case 5: return scene.count;
            case 6: return scene.cornerChange;
            case 7: return scene.voteApart;
            default: return history.count;
        }
    }

    private int firstShown(int k, int r) {
        int a = ring.aheadOf(k);
        if (a == NONE) {
            return 0;
        }
        int column = seams.columnAt(a, r + ring.shiftE(a));
        return column == NONE ? 0 : column - ring.shiftF(a);
    }

    private int lastShown(int k, int r) {
        int column = seams.columnAt(k, r);
        return column == NONE ? COLUMNS - 1 : column - 1;
    }

    private long digestPicture(long before, int k) {
        long h = before;
        for (int r = 0; r < ROWS; r++) {
            for (int c = 0; c < COLUMNS; c++) {
                h = 31 * h + scene.cellAt(k, r, c);
            }
        }
        h = 31 * h + links.cornerBits(k);
        return 31 * h + ring.followerOf(k);
    }

    private static boolean within(int n, int least, int most) {
        return n >= least && n <= most;
    }

    private static boolean isInner(int r, int c) {
        return r >= 1 && r <= ROWS - 2 && c >= 1 && c <= COLUMNS - 2;
    }

    /** The whole number nearest to above by below, of two the greater; below is above 0. */
    private static long nearest(long above, long below) {
        return below > 0 ? Math.floorDiv(2 * above + below, 2 * below) : 0;
    }

    private static long greatestDivisor(long n, long m) {
        long a = n < 0 ? -n : n;
        long b = m < 0 ? -m : m;
        // a 64-bit pair needs under 100 steps
        for (int step = 0; step < 200 && b != 0; step++) {
            long left = a % b;
            a = b;
            b = left;
        }
        return a;
    }

    /** THE WORLD, the PICTURES, T and A: what a STATE keeps. */
    private static final class Scene {
        int columns;
        int count;
        int cornerChange;
        int voteApart;
        private final int[] dots;
        private final int[] cells;
        private final int[] shotX;
        private final int[] shotY;
        private final int[] shotColumns;

        Scene() {
            cornerChange = 8;
            voteApart = 12;
            dots = new int[WORLD_ROWS * MOST_COLUMNS];
            cells = new int[PICTURES * CELLS];
            shotX = new int[PICTURES];
            shotY = new int[PICTURES];
            shotColumns = new int[PICTURES];
        }

        void copyFrom(Scene other) {
            columns = other.columns;
            count = other.count;
            cornerChange = other.cornerChange;
            voteApart = other.voteApart;
            System.arraycopy(other.dots, 0, dots, 0, WORLD_ROWS * MOST_COLUMNS);
            System.arraycopy(other.cells, 0, cells, 0, PICTURES * CELLS);
            System.arraycopy(other.shotX, 0, shotX, 0, PICTURES);
            System.arraycopy(other.shotY, 0, shotY, 0, PICTURES);
            System.arraycopy(other.shotColumns, 0, shotColumns, 0, PICTURES);
        }

        boolean hasDot(int r, int c) {
            return r >= 0 && r < WORLD_ROWS && c >= 0 && c < columns && c < MOST_COLUMNS;
        }

        int dotAt(int r, int c) {
            return hasDot(r, c) ? dots[r * MOST_COLUMNS + c] : 0;
        }

        boolean hasPicture(int k) {
            return k >= 0 && k < count && k < PICTURES;
        }

        boolean hasCell(int k, int r, int c) {
            return k >= 0 && k < count && k < PICTURES
                    && r >= 0 && r < ROWS && c >= 0 && c < COLUMNS;
        }

        int cellAt(int k, int r, int c) {
            return hasCell(k, r, c) ? cells[k * CELLS + r * COLUMNS + c] : 0;
        }

        int drawWorld(int seed, int p) {
            if (!within(seed, 0, MOST_SEED) || !within(p, LEAST_COLUMNS, MOST_COLUMNS)) {
                return BAD;
            }
            int before = columns;
            columns = p;
            long x = seed;
            for (int c = 0; c < MOST_COLUMNS && c < p; c++) {
                for (int r = 0; r < WORLD_ROWS; r++) {
                    x = (x * 1103515245L + 12345L) % 2147483648L;
                    dots[r * MOST_COLUMNS + c] = (int) (x / 65536 % 64);
                }
            }
            return before;
        }

        int putDot(int r, int c, int v) {
            if (!hasDot(r, c) || !within(v, 0, TOP)) {
                return BAD;
            }
            int before = dots[r * MOST_COLUMNS + c];
            dots[r * MOST_COLUMNS + c] = v;
            return before;
        }

        int takeShot(int x, int y, int d) {
            if (!within(x, 0, columns - 1) || !within(y, 0, MOST_Y)
                    || !within(d, -MOST_STRENGTH, MOST_STRENGTH)) {
                return BAD;
            }
            int k = count;
            if (k < 0 || k >= PICTURES) {
                return FULL;
            }
            count++;
            shotX[k] = x;
            shotY[k] = y;
            shotColumns[k] = columns;
            for (int r = 0; r < ROWS; r++) {
                for (int c = 0; c < COLUMNS; c++) {
                    int dot = dotAt(y + r, x + c < columns ? x + c : x + c - columns);
                    cells[k * CELLS + r * COLUMNS + c] = Math.max(0, Math.min(TOP, dot + d));
                }
            }
            return k;
        }

        int putCell(int k, int r, int c, int v) {
            if (!hasCell(k, r, c) || !within(v, 0, TOP)) {
                return BAD;
            }
            int before = cells[k * CELLS + r * COLUMNS + c];
            cells[k * CELLS + r * COLUMNS + c] = v;
            return before;
        }

        int dropPicture(int k) {
            if (!hasPicture(k)) {
                return BAD;
            }
            for (int i = k; i < count - 1 && i < PICTURES - 1; i++) {
                System.arraycopy(cells, (i + 1) * CELLS, cells, i * CELLS, CELLS);
                shotX[i] = shotX[i + 1];
                shotY[i] = shotY[i + 1];
                shotColumns[i] = shotColumns[i + 1];
            }
            count--;
            return count;
        }

        int setNumber(int what, int v) {
            if (what == 0 && within(v, 1, MOST_T)) {
                int before = cornerChange;
                cornerChange = v;
                return before;
            }
            if (what == 1 && within(v, 0, TOP)) {
                int before = voteApart;
                voteApart = v;
                return before;
            }
            return BAD;
        }

        /** Whether b was shot e ROWS lower and f COLUMNS to the right of a, in a WORLD as wide. */
        boolean isRight(int a, int b, int e, int f) {
            if (!hasPicture(a) || !hasPicture(b)) {
                return false;
            }
            int p = shotColumns[a];
            return p > 0 && shotColumns[b] == p && shotY[b] == shotY[a] + e
                    && shotX[b] == (shotX[a] + f) % p;
        }
    }

    /** The STATES to go back to, and one that is held until a call turns out well. */
    private static final class History {
        int count;
        private final Scene[] states;
        private Scene held;

        History() {
            states = new Scene[STATES];
            for (int i = 0; i < STATES; i++) {
                states[i] = new Scene();
            }
            held = new Scene();
        }

        void hold(Scene scene) {
            held.copyFrom(scene);
        }

        void release(Scene scene) {
            scene.copyFrom(held);
        }

        /** The held one becomes the newest STATE; the one that gives way is used again. */
        void keep() {
            if (count >= STATES) {
                Scene oldest = states[0];
                for (int i = 0; i < STATES - 1; i++) {
                    states[i] = states[i + 1];
                }
                states[STATES - 1] = held;
                held = oldest;
            } else if (count >= 0) {
                Scene unused = states[count];
                states[count] = held;
                held = unused;
                count++;
            }
        }

        void goBack(Scene scene) {
            if (count > 0 && count <= STATES) {
                count--;
                scene.copyFrom(states[count]);
            }
        }
    }

    /** CORNERS of the PICTURES, their VOTES, and the LINK of each two. */
    private static final class Links {
        private final int[] corner;
        private final int[] most;
        private final int[] bestE;
        private final int[] bestF;

        Links() {
            corner = new int[PICTURES];
            most = new int[PICTURES * PICTURES];
            bestE = new int[PICTURES * PICTURES];
            bestF = new int[PICTURES * PICTURES];
        }

        void find(Scene scene) {
            for (int k = 0; k < PICTURES; k++) {
                corner[k] = findCorners(scene, k);
            }
            for (int a = 0; a < PICTURES; a++) {
                for (int b = 0; b < PICTURES; b++) {
                    findLink(scene, a, b);
                }
            }
        }

        int cornerBits(int k) {
            return within(k, 0, PICTURES - 1) ? corner[k] : 0;
        }

        int votesOf(int a, int b) {
            return areTwo(a, b) ? most[a * PICTURES + b] : 0;
        }

        int shiftE(int a, int b) {
            return areTwo(a, b) ? bestE[a * PICTURES + b] : 0;
        }

        int shiftF(int a, int b) {
            return areTwo(a, b) ? bestF[a * PICTURES + b] : 0;
        }

        int countVotes(Scene scene, int a, int b, int e, int f) {
            int count = 0;
            for (int r = 1; r <= ROWS - 2; r++) {
                for (int c = 1; c <= COLUMNS - 2; c++) {
                    if (isCorner(a, r, c) && isCorner(b, r - e, c - f)) {
                        int more = scene.cellAt(a, r, c) - scene.cellAt(b, r - e, c - f);
                        count += Math.abs(more) <= scene.voteApart ? 1 : 0;
                    }
                }
            }
            return count;
        }

        static int changeAt(Scene scene, int k, int r, int c) {
            int least = changeAlong(scene, k, r, c, 0, 1);
            least = Math.min(least, changeAlong(scene, k, r, c, 1, 0));
            least = Math.min(least, changeAlong(scene, k, r, c, 1, 1));
            return Math.min(least, changeAlong(scene, k, r, c, 1, -1));
        }

        private static int changeAlong(Scene scene, int k, int r, int c, int down, int aside) {
            int v = scene.cellAt(k, r, c);
            return Math.abs(v - scene.cellAt(k, r - down, c - aside))
                    + Math.abs(v - scene.cellAt(k, r + down, c + aside));
        }

        private static boolean areTwo(int a, int b) {
            return within(a, 0, PICTURES - 1) && within(b, 0, PICTURES - 1);
        }

        private static int cornerBit(int r, int c) {
            return 1 << (INNER * (r - 1) + c - 1);
        }

        private int findCorners(Scene scene, int k) {
            if (!scene.hasPicture(k)) {
                return 0;
            }
            int bits = 0;
            for (int r = 1; r <= ROWS - 2; r++) {
                for (int c = 1; c <= COLUMNS - 2; c++) {
                    if (changeAt(scene, k, r, c) >= scene.cornerChange) {
                        bits |= cornerBit(r, c);
                    }
                }
            }
            return bits;
        }

        private boolean isCorner(int k, int r, int c) {
            return isInner(r, c) && k >= 0 && k < PICTURES && (corner[k] & cornerBit(r, c)) != 0;
        }

        /** SHIFTS are tried in the order in which like ones go ahead, so only more VOTES win. */
        private void findLink(Scene scene, int a, int b) {
            int at = a * PICTURES + b;
            if (!areTwo(a, b)) {
                return;
            }
            most[at] = 0;
            if (a == b || !scene.hasPicture(a) || !scene.hasPicture(b)) {
                return;
            }
            for (int size = 0; size <= MOST_E; size++) {
                for (int shift = 0; shift < 2 * MOST_F; shift++) {
                    int e = shift % 2 == 0 ? -size : size;
                    int f = 1 + shift / 2;
                    int count = countVotes(scene, a, b, e, f);
                    if (count > most[at]) {
                        most[at] = count;
                        bestE[at] = e;
                        bestF[at] = f;
                    }
                }
            }
        }
    }

    /** The taken LINKS, each kept at the PICTURE that it comes from, and PLACES. */
    private static final class Chain {
        int taken;
        int turn;
        int drift;
        int right;
        boolean closed;
        private final int[] follower;
        private final int[] ahead;
        private final int[] linkE;
        private final int[] linkF;
        private final int[] placeRight;
        private final int[] placeLower;

        Chain() {
            follower = new int[PICTURES];
            ahead = new int[PICTURES];
            linkE = new int[PICTURES];
            linkF = new int[PICTURES];
            placeRight = new int[PICTURES];
            placeLower = new int[PICTURES];
        }

        int followerOf(int k) {
            return within(k, 0, PICTURES - 1) ? follower[k] : NONE;
        }

        int aheadOf(int k) {
            return within(k, 0, PICTURES - 1) ? ahead[k] : NONE;
        }

        int shiftE(int k) {
            return within(k, 0, PICTURES - 1) ? linkE[k] : 0;
        }

        int shiftF(int k) {
            return within(k, 0, PICTURES - 1) ? linkF[k] : 0;
        }

        int rightOf(int k) {
            return within(k, 0, PICTURES - 1) ? placeRight[k] : 0;
        }

        int lowerOf(int k) {
            return within(k, 0, PICTURES - 1) ? placeLower[k] : 0;
        }

        void join(Scene scene, Links links) {
            taken = 0;
            turn = 0;
            drift = 0;
            right = 0;
            for (int k = 0; k < PICTURES; k++) {
                follower[k] = NONE;
                ahead[k] = NONE;
            }
            for (int most = CORNERS; most > 0; most--) {
                for (int a = 0; a < PICTURES; a++) {
                    for (int b = 0; b < PICTURES; b++) {
                        if (links.votesOf(a, b) == most && mayJoin(a, b, scene.count)) {
                            take(scene, links, a, b);
                        }
                    }
                }
            }
            closed = scene.count >= 2 && taken == scene.count;
            if (closed) {
                findPlaces(scene.count);
            }
        }

        private boolean mayJoin(int a, int b, int count) {
            if (followerOf(a) != NONE || aheadOf(b) != NONE) {
                return false;
            }
            int way = wayLength(b, a);
            return way == 0 || way == count;
        }

        /** How many PICTURES lie on the way from one to another; 0: it does not lead there. */
        private int wayLength(int from, int to) {
            int at = from;
            for (int n = 1; n <= PICTURES && at != NONE; n++) {
                if (at == to) {
                    return n;
                }
                at = followerOf(at);
            }
            return 0;
        }

        private void take(Scene scene, Links links, int a, int b) {
            if (!within(a, 0, PICTURES - 1) || !within(b, 0, PICTURES - 1)) {
                return;
            }
            follower[a] = b;
            ahead[b] = a;
            linkE[a] = links.shiftE(a, b);
            linkF[a] = links.shiftF(a, b);
            taken++;
            turn += linkF[a];
            drift += linkE[a];
            if (scene.isRight(a, b, linkE[a], linkF[a])) {
                right++;
            }
        }

        private void findPlaces(int count) {
            int at = 0;
            int f = 0;
            int e = 0;
            for (int k = 0; k < count && within(at, 0, PICTURES - 1); k++) {
                placeRight[at] = f;
                placeLower[at] = e - (int) nearest((long) drift * k, count);
                f += linkF[at];
                e += linkE[at];
                at = follower[at];
            }
        }
    }

    /** The OVERLAP and the SEAM of each taken LINK, kept at the PICTURE that it comes from. */
    private static final class Seams {
        private final int[] cells;
        private final int[] apart;
        private final int[] surplus;
        private final int[] seamCost;
        private final int[] column;
        private final int[] gap;
        private final int[] cost;

        Seams() {
            cells = new int[PICTURES];
            apart = new int[PICTURES];
            surplus = new int[PICTURES];
            seamCost = new int[PICTURES];
            column = new int[PICTURES * ROWS];
            gap = new int[CELLS];
            cost = new int[CELLS];
        }

        int cellsOf(int k) {
            return within(k, 0, PICTURES - 1) ? cells[k] : 0;
        }

        int apartOf(int k) {
            return within(k, 0, PICTURES - 1) ? apart[k] : 0;
        }

        int surplusOf(int k) {
            return within(k, 0, PICTURES - 1) ? surplus[k] : 0;
        }

        int seamCostOf(int k) {
            return within(k, 0, PICTURES - 1) ? seamCost[k] : 0;
        }

        /** NONE: there is no SEAM, or it has no such ROW. */
        int columnAt(int k, int r) {
            return within(k, 0, PICTURES - 1) && within(r, 0, ROWS - 1)
                    ? column[k * ROWS + r] : NONE;
        }

        void cut(Scene scene, Chain ring) {
            for (int i = 0; i < PICTURES * ROWS; i++) {
                column[i] = NONE;
            }
            for (int a = 0; a < PICTURES; a++) {
                if (ring.followerOf(a) != NONE) {
                    cutOne(scene, ring, a);
                }
            }
        }

        private void cutOne(Scene scene, Chain ring, int a) {
            int e = ring.shiftE(a);
            int f = ring.shiftF(a);
            int top = Math.max(0, e);
            int bottom = Math.min(ROWS - 1, ROWS - 1 + e);
            compare(scene, ring, a);
            for (int r = bottom; r >= top; r--) {
                for (int c = Math.max(f, 0); c < COLUMNS; c++) {
                    cost[r * COLUMNS + c] = gap[r * COLUMNS + c];
                    if (r < bottom) {
                        int below = cheapest(r + 1, Math.max(f, c - 1), c + 1);
                        cost[r * COLUMNS + c] += cost[(r + 1) * COLUMNS + below];
                    }
                }
            }
            follow(a, f, top, bottom);
        }

        /** Lays a on its FOLLOWER: how far each CELL is from the one that it lies on. */
        private void compare(Scene scene, Chain ring, int a) {
            int b = ring.followerOf(a);
            int e = ring.shiftE(a);
            int f = ring.shiftF(a);
            cells[a] = 0;
            apart[a] = 0;
            surplus[a] = 0;
            for (int r = 0; r < ROWS; r++) {
                for (int c = 0; c < COLUMNS; c++) {
                    if (scene.hasCell(b, r - e, c - f)) {
                        int more = scene.cellAt(a, r, c) - scene.cellAt(b, r - e, c - f);
                        gap[r * COLUMNS + c] = Math.abs(more);
                        cells[a]++;
                        apart[a] += Math.abs(more);
                        surplus[a] += more;
                    }
                }
            }
        }

        /** Costs count from a ROW to the last one, so the least COLUMNS come first from the top. */
        private void follow(int a, int f, int top, int bottom) {
            seamCost[a] = 0;
            int from = f;
            int to = COLUMNS - 1;
            for (int r = top; r <= bottom; r++) {
                int c = cheapest(r, from, to);
                column[a * ROWS + r] = c;
                seamCost[a] += gap[r * COLUMNS + c];
                from = Math.max(f, c - 1);
                to = c + 1;
            }
        }

        /** The least of the COLUMNS of least cost. */
        private int cheapest(int r, int from, int to) {
            int best = Math.max(0, Math.min(COLUMNS - 1, from));
            if (!within(r, 0, ROWS - 1)) {
                return best;
            }
            for (int c = best + 1; c <= to && c < COLUMNS; c++) {
                if (cost[r * COLUMNS + c] < cost[r * COLUMNS + best]) {
                    best = c;
                }
            }
            return best;
        }
    }

    /** LEVELS and REST, as fractions in lowest terms. */
    private static final class Levels {
        /** How many CELLS an OVERLAP has always divides this, so every M is a count of its parts. */
        private static final int PARTS = 5040;

        long restAbove;
        long restBelow;
        private final long[] above;
        private final long[] below;

        Levels() {
            above = new long[PICTURES];
            below = new long[PICTURES];
        }

        long aboveOf(int k) {
            return within(k, 0, PICTURES - 1) ? above[k] : 0;
        }

        long belowOf(int k) {
            return within(k, 0, PICTURES - 1) ? below[k] : 1;
        }

        void agree(int count, Chain ring, Seams seams) {
            restAbove = 0;
            restBelow = 1;
            if (ring.closed) {
                agreeRound(ring, seams);
                return;
            }
            for (int k = 0; k < PICTURES && k < count; k++) {
                if (ring.aheadOf(k) == NONE) {
                    walk(ring, seams, k, 1, 0);
                }
            }
        }

        /**
         * Round the ring the steps of LEVEL come to 0, so the sum is least when each step is M less
         * a share of all M together, the greater the fewer CELLS the OVERLAP has.
         */
        private void agreeRound(Chain ring, Seams seams) {
            long total = 0;
            long shares = 0;
            for (int k = 0; k < PICTURES; k++) {
                if (ring.followerOf(k) != NONE) {
                    total += seams.surplusOf(k) * share(seams.cellsOf(k));
                    shares += share(seams.cellsOf(k));
                }
            }
            walk(ring, seams, 0, shares, total);
            long divisor = greatestDivisor(total * total, PARTS * shares);
            if (divisor > 0) {
                restAbove = total * total / divisor;
                restBelow = PARTS * shares / divisor;
            }
        }

        /** From FOLLOWER to FOLLOWER, each step M less total by (shares times CELLS). */
        private void walk(Chain ring, Seams seams, int from, long shares, long total) {
            int at = from;
            long sum = 0;
            for (int n = 0; n < PICTURES && within(at, 0, PICTURES - 1); n++) {
                if (n > 0 && at == from) {
                    return;
                }
                setLevel(at, sum, PARTS * shares);
                sum += (seams.surplusOf(at) * shares - total) * share(seams.cellsOf(at));
                at = ring.followerOf(at);
            }
        }

        private void setLevel(int k, long sum, long parts) {
            long divisor = greatestDivisor(sum, parts);
            if (within(k, 0, PICTURES - 1) && divisor > 0) {
                above[k] = sum / divisor;
                below[k] = parts / divisor;
            }
        }

        private static long share(int cells) {
            return cells > 0 ? PARTS / cells : 0;
        }
    }

    /** THE TEXT taken apart byte by byte, and its ORDERS carried out. */
    private static final class Orders {
        private static final int AT_LETTER = 0, AT_GAP = 1, AT_MINUS = 2, AT_FIGURE = 3;

        int count;
        int stopKind;
        private final int[] letters;
        private final int[] numbers;
        private int state;
        private int letter;
        private int filled;
        private int figures;
        private int number;
        private boolean below;

        Orders() {
            letters = new int[MOST_ORDERS];
            numbers = new int[MOST_ORDERS * NUMBERS];
        }

        /** The FAULT, or NONE. */
        int findFault(int[] text, int length) {
            count = 0;
            state = AT_LETTER;
            for (int i = 0; i < length && i < text.length; i++) {
                if (!accept(text[i])) {
                    return i;
                }
            }
            return count > 0 && state == AT_LETTER ? NONE : length;
        }

        /** The number of the ORDER that stops all, or NONE. */
        int carryOut(Scene scene) {
            for (int i = 0; i < count && i < MOST_ORDERS; i++) {
                int answer = carryOutOne(scene, letters[i], i * NUMBERS);
                if (answer < 0) {
                    stopKind = -answer;
                    return i;
                }
            }
            return NONE;
        }

        private int carryOutOne(Scene scene, int order, int at) {
            if (!within(at, 0, (MOST_ORDERS - 1) * NUMBERS)) {
                return BAD;
            }
            int first = numbers[at];
            int second = numbers[at + 1];
            int third = numbers[at + 2];
            switch (order) {
                case 'w': return scene.drawWorld(first, second);
                case 's': return scene.takeShot(first, second, third);
                case 'p': return scene.putCell(first, second, third, numbers[at + 3]);
                case 'c': return scene.putDot(first, second, third);
                case 't': return scene.setNumber(0, first);
                case 'a': return scene.setNumber(1, first);
                case 'x': return scene.dropPicture(first);
                default: return BAD;
            }
        }

        private static int numbersOf(int order) {
            switch (order) {
                case 'w': return 2;
                case 's': case 'c': return 3;
                case 'p': return 4;
                case 't': case 'a': case 'x': return 1;
                default: return 0;
            }
        }

        private boolean accept(int c) {
            switch (state) {
                case AT_LETTER: return c == BLANK || acceptLetter(c);
                case AT_MINUS: return isFigure(c) && acceptFigure(c);
                case AT_FIGURE:
                    if (isFigure(c)) {
                        return acceptFigure(c);
                    }
                    endNumber();
                    return acceptInGap(c);
                default: return acceptInGap(c);
            }
        }

        private boolean acceptLetter(int c) {
            if (numbersOf(c) == 0 || !within(count, 0, MOST_ORDERS - 1)) {
                return false;
            }
            letter = c;
            filled = 0;
            state = AT_GAP;
            return true;
        }

        private boolean acceptInGap(int c) {
            if (c == BLANK) {
                return true;
            }
            if (filled >= numbersOf(letter)) {
                return c == ';' && endOrder();
            }
            boolean minus = c == '-' && letter == 's' && filled == STRENGTH_AT;
            if (!minus && !isFigure(c)) {
                return false;
            }
            number = 0;
            figures = 0;
            below = minus;
            state = AT_MINUS;
            return minus || acceptFigure(c);
        }

        private boolean acceptFigure(int c) {
            if (figures >= MOST_FIGURES) {
                return false;
            }
            figures++;
            number = 10 * number + c - '0';
            state = AT_FIGURE;
            return true;
        }

        private void endNumber() {
            int at = count * NUMBERS + filled;
            if (within(at, 0, MOST_ORDERS * NUMBERS - 1)) {
                numbers[at] = below ? -number : number;
            }
            filled++;
            state = AT_GAP;
        }

        private boolean endOrder() {
            if (!within(count, 0, MOST_ORDERS - 1)) {
                return false;
            }
            letters[count] = letter;
            count++;
            state = AT_LETTER;
            return true;
        }

        private static boolean isFigure(int c) {
            return c >= '0' && c <= '9';
        }
    }
}
