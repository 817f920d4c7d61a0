/** The boundary cases of promises 16 to 21: OVERLAP, SEAM, LEVELS, REST, what a PICTURE SHOWS, what is SEEN. */
public final class SeamBoundaryTest {
    private static final int NONE = PictureRing.NONE, BAD = PictureRing.BAD, NO = PictureRing.NO;
    private static final int LEAST = Integer.MIN_VALUE, MOST = Integer.MAX_VALUE;

    private SeamBoundaryTest() { }

    public static void main(String[] args) {
        overlapCells();
        overlapOfOwnCellsAlone();
        overlapSigns();
        overlapFarApart();
        overlapNoFollower();
        seamRows();
        seamColumns();
        seamSteps();
        seamOfLikeOnes();
        seamLooksAhead();
        seamNoFollower();
        levelOpen();
        levelOfThoseThatFollowNone();
        levelClosed();
        levelLowestTerms();
        levelNumbers();
        restOpen();
        restClosed();
        restNumbers();
        showsOwnSeam();
        showsFromTheOneAhead();
        showsNoSuchRow();
        showsNothing();
        showsNumbers();
        seenHalves();
        seenClosed();
        seenNumbers();
        lastOfSix();
        Check.end();
    }

    // ---- what several tests share

    /** Two blank PICTURES, linked from 0 to 1 by one VOTE at e, f; nothing differs in the OVERLAP. */
    private static PictureRing pair(int e, int f) {
        PictureRing x = Scenes.blank(2);
        Scenes.mark(x, 0, 1, e, f, 40);
        return x;
    }

    /** A CELL of 0 more than it was; 3 at most above 0 are no CORNER. */
    private static void raise(PictureRing x, int k, int r, int c, int more) {
        x.paint(k, r, c, x.value(k, r, c) + more);
    }

    /** A pair of which the CELLS of the OVERLAP differ by so much; ROWS of it, COLUMNS from f on. */
    private static PictureRing gaps(int e, int f, int[][] gaps) {
        PictureRing x = pair(e, f);
        for (int r = 0; r < gaps.length; r++) {
            for (int c = f; c < 8; c++) {
                raise(x, 0, Math.max(0, e) + r, c, gaps[r][c - f]);
            }
        }
        return x;
    }

    private static void seamIs(String of, PictureRing x, int k, int... columns) {
        for (int r = 0; r < 4; r++) {
            Check.due(of + ": seam(" + k + ", " + r + ")", x.seam(k, r), columns[r]);
        }
    }

    private static void levelIs(String of, PictureRing x, int k, long above, long below) {
        Check.due(of + ": level(" + k + ", 0)", x.level(k, 0), above);
        Check.due(of + ": level(" + k + ", 1)", x.level(k, 1), below);
    }

    private static void restIs(String of, PictureRing x, long above, long below) {
        Check.due(of + ": rest(0)", x.rest(0), above);
        Check.due(of + ": rest(1)", x.rest(1), below);
    }

    // ---- promise 16

    private static void overlapCells() {
        Check.sentence("CELLS of a, of ROW r, COLUMN c from f on, such that ROW r less e of b is one");
        for (int e = -1; e <= 1; e++) {
            for (int f = 1; f <= 5; f++) {
                PictureRing x = pair(e, f);
                String of = "by " + e + ", " + f;
                Check.due(of + ": CELLS", x.overlap(0, 0), (e == 0 ? 4 : 3) * (8 - f));
                Check.due(of + ": nothing differs", x.overlap(0, 1), 0);
                Check.due(of + ": nothing at the SEAM", x.overlap(0, 2), 0);
                Check.due(of + ": none less", x.overlap(0, 3), 2000);
            }
        }
    }

    private static void overlapOfOwnCellsAlone() {
        Check.sentence("each lies on CELL r less e, c less f of b");
        for (int e = -1; e <= 1; e++) {
            for (int f = 1; f <= 5; f++) {
                for (int n = 0; n < 32; n++) {
                    int r = n / 8;
                    int c = n % 8;
                    int inA = c >= f && r - e >= 0 && r - e <= 3 ? 1 : 0;
                    int inB = c + f <= 7 && r + e >= 0 && r + e <= 3 ? 1 : 0;
                    PictureRing x = pair(e, f);
                    raise(x, 0, r, c, 3);
                    String of = "by " + e + ", " + f + ", CELL " + r + ", " + c;
                    Check.due(of + " of a", x.overlap(0, 1), 3 * inA);
                    Check.due(of + " of a, less and 2000", x.overlap(0, 3), 2000 + 3 * inA);
                    raise(x, 0, r, c, -3);
                    raise(x, 1, r, c, 3);
                    Check.due(of + " of b", x.overlap(0, 1), 3 * inB);
                    Check.due(of + " of b, less and 2000", x.overlap(0, 3), 2000 - 3 * inB);
                }
            }
        }
    }

    private static void overlapSigns() {
        Check.sentence("by how much VALUES of both differ there, without signs, together (1)");
        PictureRing x = pair(1, 4);
        raise(x, 0, 1, 4, 3);
        raise(x, 1, 1, 1, 2);
        Check.due("without signs", x.overlap(0, 1), 5);
        Check.due("with signs", x.overlap(0, 3), 2001);
        raise(x, 1, 1, 2, 3);
        Check.due("with signs, below", x.overlap(0, 3), 1998);
        raise(x, 0, 2, 6, 3);
        raise(x, 1, 1, 2, -3);
        raise(x, 1, 1, 1, -2);
        raise(x, 1, 0, 0, 3);
        Check.due("CELLS that are alike again", x.overlap(0, 1), 3);
    }

    private static void overlapFarApart() {
        Check.sentence("VALUES of the one less those of the other together and 2000 (3)");
        for (int way = 0; way < 2; way++) {
            PictureRing x = Scenes.blank(2);
            x.sets(1, 63);
            for (int n = 0; n < 32; n++) {
                x.paint(way, n / 8, n % 8, 63);
            }
            // the CORNERS are as far apart, the other way
            x.paint(way, 1, way == 0 ? 6 : 5, 0);
            x.paint(1 - way, 1, way == 0 ? 5 : 6, 63);
            Check.due("CELLS", x.overlap(0, 0), 28);
            Check.due("without signs", x.overlap(0, 1), 28 * 63);
            Check.due("at the SEAM", x.overlap(0, 2), 4 * 63);
            Check.due("with signs", x.overlap(0, 3), 2000 + (way == 0 ? 26 : -26) * 63);
        }
    }

    private static void overlapNoFollower() {
        Check.sentence("overlap: BAD; NO: it has no FOLLOWER.");
        PictureRing x = pair(0, 4);
        for (int what = 0; what <= 3; what++) {
            Check.due("overlap(1, " + what + ")", x.overlap(1, what), NO);
        }
        int[][] wrong = {{-1, 0}, {2, 0}, {0, -1}, {0, 4}, {1, -1}, {1, 4}, {LEAST, 0}, {MOST, 0}, {0, LEAST}, {0, MOST}};
        for (int[] n : wrong) {
            Check.due("overlap(" + n[0] + ", " + n[1] + ")", x.overlap(n[0], n[1]), BAD);
        }
        Check.due("told(0)", x.told(0), wrong.length);
        Check.due("told(1)", x.told(1), 4);
        Check.due("one PICTURE", Scenes.blank(1).overlap(0, 0), NO);
    }

    // ---- promise 17

    private static void seamRows() {
        Check.sentence("for each ROW r of a that has such CELLS; NONE: the ROW has no CELLS of the OVERLAP");
        for (int f = 1; f <= 5; f++) {
            seamIs("by -1, " + f, pair(-1, f), 0, f, f, f, NONE);
            seamIs("by 0, " + f, pair(0, f), 0, f, f, f, f);
            seamIs("by 1, " + f, pair(1, f), 0, NONE, f, f, f);
        }
    }

    private static void seamColumns() {
        Check.sentence("one of its COLUMNS (f .. 7)");
        for (int e = -1; e <= 1; e++) {
            for (int f = 1; f <= 5; f++) {
                for (int only = f; only <= 7; only++) {
                    int rows = e == 0 ? 4 : 3;
                    int[][] gaps = new int[rows][8 - f];
                    for (int[] row : gaps) {
                        java.util.Arrays.fill(row, 1);
                        row[only - f] = 0;
                    }
                    PictureRing x = gaps(e, f, gaps);
                    int[] columns = {only, only, only, only};
                    if (e != 0) {
                        columns[e == 1 ? 0 : 3] = NONE;
                    }
                    String of = "by " + e + ", " + f + ", COLUMN " + only + " alone is alike";
                    seamIs(of, x, 0, columns);
                    Check.due(of + ": at the SEAM", x.overlap(0, 2), 0);
                    Check.due(of + ": in all", x.overlap(0, 1), rows * (7 - f));
                }
            }
        }
    }

    private static void seamSteps() {
        Check.sentence("from ROW to ROW 1 away or none");
        seamIs("1 to the right each", gaps(0, 4, new int[][] {{0, 3, 3, 3}, {3, 0, 3, 3}, {3, 3, 0, 3}, {3, 3, 3, 0}}),
                0, 4, 5, 6, 7);
        seamIs("1 to the left each", gaps(0, 4, new int[][] {{3, 3, 3, 0}, {3, 3, 0, 3}, {3, 0, 3, 3}, {0, 3, 3, 3}}),
                0, 7, 6, 5, 4);
        PictureRing right = gaps(0, 4, new int[][] {{0, 3, 3, 3}, {3, 2, 0, 3}, {3, 3, 0, 3}, {3, 3, 0, 3}});
        seamIs("2 to the right is too far", right, 0, 4, 5, 6, 6);
        Check.due("at the SEAM", right.overlap(0, 2), 2);
        PictureRing left = gaps(0, 4, new int[][] {{3, 3, 3, 0}, {3, 0, 2, 3}, {3, 0, 3, 3}, {3, 0, 3, 3}});
        seamIs("2 to the left is too far", left, 0, 7, 6, 5, 5);
        Check.due("at the SEAM", left.overlap(0, 2), 2);
        stepsOfTwo();
        seamIs("back and forth", gaps(0, 4, new int[][] {{3, 0, 3, 3}, {0, 3, 3, 3}, {3, 0, 3, 3}, {3, 3, 0, 3}}),
                0, 5, 4, 5, 6);
        seamIs("none", gaps(1, 5, new int[][] {{3, 3, 0}, {3, 3, 0}, {3, 3, 0}}), 0, NONE, 7, 7, 7);
        seamIs("not left of f", gaps(-1, 5, new int[][] {{0, 3, 3}, {3, 3, 3}, {0, 3, 3}}), 0, 5, 5, 5, NONE);
    }

    /** A way 1 away each costs 1; a step of 2 in one ROW would cost nothing. */
    private static void stepsOfTwo() {
        for (int f = 1; f <= 4; f++) {
            for (int row = 0; row < 3; row++) {
                for (int to = f; to <= 5; to++) {
                    twoAway(f, row, to, to + 2);
                    twoAway(f, row, to + 2, to);
                }
            }
        }
    }

    /** Up to the ROW one COLUMN is alike, below it one that is 2 away; 1 aside of both differs by 3. */
    private static void twoAway(int f, int row, int above, int below) {
        int[][] gaps = new int[4][8 - f];
        for (int r = 0; r < 4; r++) {
            java.util.Arrays.fill(gaps[r], 3);
            gaps[r][(r <= row ? above : below) - f] = 0;
        }
        // the way below all along costs 1 in the first ROWS together
        gaps[0][below - f] = 1;
        for (int r = 1; r <= row; r++) {
            gaps[r][below - f] = 0;
        }
        PictureRing x = gaps(0, f, gaps);
        String of = "from " + above + " to " + below + " below ROW " + row + ", f " + f;
        seamIs(of, x, 0, below, below, below, below);
        Check.due(of + ": at the SEAM", x.overlap(0, 2), 1);
    }

    private static void seamOfLikeOnes() {
        Check.sentence("of like ones that with the least COLUMN in the first ROW, then in the second, and so on");
        seamIs("all alike", gaps(0, 3, new int[4][5]), 0, 3, 3, 3, 3);
        seamIs("the first ROW", gaps(0, 4, new int[][] {{0, 3, 0, 3}, {3, 0, 3, 0}, {0, 3, 0, 3}, {0, 0, 0, 0}}),
                0, 4, 5, 4, 4);
        seamIs("the first ROW, not the last", gaps(0, 4, new int[][] {{0, 3, 0, 3}, {3, 0, 3, 0}, {3, 3, 0, 3}, {3, 3, 3, 0}}),
                0, 4, 5, 6, 7);
        seamIs("the first ROW ahead of the others together", gaps(0, 4,
                new int[][] {{1, 1, 3, 3}, {3, 3, 0, 3}, {3, 3, 0, 3}, {3, 3, 0, 3}}), 0, 5, 6, 6, 6);
        PictureRing costly = gaps(0, 4, new int[][] {{0, 3, 1, 3}, {2, 1, 1, 3}, {0, 0, 0, 0}, {0, 0, 0, 0}});
        seamIs("1 at once or 1 later", costly, 0, 4, 5, 4, 4);
        Check.due("at the SEAM", costly.overlap(0, 2), 1);
        seamIs("the second ROW", gaps(0, 4, new int[][] {{3, 0, 3, 3}, {0, 3, 0, 3}, {0, 0, 0, 0}, {3, 3, 3, 3}}),
                0, 5, 4, 4, 4);
        seamIs("the third ROW", gaps(0, 4, new int[][] {{3, 0, 3, 3}, {3, 0, 3, 3}, {0, 3, 0, 3}, {0, 0, 0, 0}}),
                0, 5, 5, 4, 4);
        seamIs("the last ROW", gaps(0, 4, new int[][] {{3, 3, 0, 3}, {3, 3, 0, 3}, {3, 3, 0, 3}, {3, 0, 3, 0}}),
                0, 6, 6, 6, 5);
        seamIs("ROW 1 is the first by e 1", gaps(1, 4, new int[][] {{0, 3, 0, 3}, {3, 0, 3, 3}, {0, 3, 0, 3}}),
                0, NONE, 4, 5, 4);
        seamIs("ROW 2 is the last by e -1", gaps(-1, 4, new int[][] {{3, 0, 3, 0}, {3, 3, 0, 3}, {3, 0, 3, 0}}),
                0, 5, 6, 5, NONE);
    }

    private static void seamLooksAhead() {
        Check.sentence("by which the VALUES of both CELLS there differ least together");
        PictureRing x = gaps(0, 4, new int[][] {{0, 0, 3, 3}, {0, 3, 0, 3}, {3, 3, 3, 0}, {0, 0, 0, 0}});
        seamIs("a way that goes on at no cost", x, 0, 5, 6, 7, 6);
        Check.due("at the SEAM", x.overlap(0, 2), 0);
        PictureRing y = gaps(0, 4, new int[][] {{0, 3, 3, 2}, {3, 3, 3, 0}, {3, 3, 3, 0}, {3, 3, 3, 0}});
        seamIs("dearer at first", y, 0, 7, 7, 7, 7);
        Check.due("at the SEAM", y.overlap(0, 2), 2);
        PictureRing z = pair(0, 4);
        for (int r = 0; r < 4; r++) {
            raise(z, 1, r, 0, 2);
            raise(z, 0, r, 5, 1);
            raise(z, 1, r, 2, 3);
            raise(z, 0, r, 7, 2);
        }
        seamIs("below counts as above", z, 0, 5, 5, 5, 5);
        Check.due("at the SEAM", z.overlap(0, 2), 4);
    }

    private static void seamNoFollower() {
        Check.sentence("seam: BAD; NO: it has no FOLLOWER.");
        PictureRing x = pair(1, 4);
        for (int r = 0; r <= 3; r++) {
            Check.due("seam(1, " + r + ")", x.seam(1, r), NO);
        }
        int[][] wrong = {{-1, 0}, {2, 0}, {0, -1}, {0, 4}, {1, -1}, {1, 4}, {LEAST, 0}, {MOST, 0}, {0, LEAST}, {0, MOST}};
        for (int[] n : wrong) {
            Check.due("seam(" + n[0] + ", " + n[1] + ")", x.seam(n[0], n[1]), BAD);
        }
        Check.due("told(0)", x.told(0), wrong.length);
        Check.due("told(1)", x.told(1), 4);
        Check.due("NONE is not refused", x.seam(0, 0), NONE);
        Check.due("told(1) yet", x.told(1), 4);
    }

    // ---- promises 18 and 19

    private static void levelOpen() {
        Check.sentence("a PICTURE that follows none has LEVEL 0, a FOLLOWER that of the one ahead and M");
        PictureRing x = Scenes.row(new int[] {0, 4}, new int[] {0, 4});
        levelIs("0", x, 0, 0, 1);
        // the mark of 1 for 2 (20) lies right of the OVERLAP with 0, that of 0 (10) left of that with 2
        levelIs("1", x, 1, 0, 1);
        levelIs("2", x, 2, 0, 1);
        raise(x, 0, 0, 7, 1);
        levelIs("M 1 by 16", x, 1, 1, 16);
        levelIs("and on", x, 2, 1, 16);
        raise(x, 1, 0, 7, 3);
        levelIs("and M 3 by 16", x, 2, 1, 4);
        raise(x, 2, 3, 0, 3);
        raise(x, 2, 3, 1, 3);
        levelIs("M -3 by 16", x, 2, -1, 8);
        levelIs("0 yet", x, 0, 0, 1);
        restIs("open", x, 0, 1);
    }

    private static void levelOfThoseThatFollowNone() {
        Check.sentence("a PICTURE that follows none has LEVEL 0 (whichever it is)");
        PictureRing one = Scenes.blank(1);
        levelIs("alone", one, 0, 0, 1);
        PictureRing apart = Scenes.blank(6);
        levelIs("the last of six apart", apart, 5, 0, 1);
        PictureRing x = Scenes.join(Scenes.blank(4), new int[] {2, 0, 1}, new int[][] {{0, 4}, {0, 4}});
        raise(x, 2, 0, 7, 3);
        raise(x, 0, 0, 7, 2);
        levelIs("2, 0, 1", x, 2, 0, 1);
        levelIs("2, 0, 1", x, 0, 3, 16);
        levelIs("2, 0, 1", x, 1, 5, 16);
        levelIs("3 lies apart", x, 3, 0, 1);
    }

    private static void levelClosed() {
        Check.sentence("LEVELS, 0 for PICTURE 0, by which the sum over all taken LINKS is least");
        // by f 1: 20 more in one CELL and 20 less in another, of 28; by f 5: 10 more, of 12
        PictureRing x = Scenes.ring(new int[] {0, 1}, new int[] {0, 5});
        Check.due("by f 1", x.overlap(0, 3), 2000);
        Check.due("by f 5", x.overlap(1, 3), 2010);
        levelIs("two", x, 0, 0, 1);
        levelIs("two", x, 1, -1, 4);
        restIs("two", x, 35, 6);
        // the other way round the same ring, 0 has LEVEL 0 again
        PictureRing y = Scenes.join(Scenes.blank(2), new int[] {1, 0}, new int[][] {{0, 1}, {0, 5}});
        levelIs("the other is 0", y, 0, 0, 1);
        levelIs("the other is 0", y, 1, 1, 4);
        restIs("the other is 0", y, 35, 6);
        PictureRing z = Scenes.ring(new int[] {0, 4}, new int[] {0, 4}, new int[] {0, 4});
        restIs("three that agree", z, 0, 1);
        raise(z, 0, 0, 7, 3);
        levelIs("3 by 16, a third off each", z, 1, 1, 8);
        levelIs("3 by 16, a third off each", z, 2, 1, 16);
        restIs("3 times 16 times 1 by 16 times itself", z, 3, 16);
    }

    private static void levelLowestTerms() {
        Check.sentence("They are told in lowest terms, below above 0 (0: 0 by 1).");
        int[][] cases = {{1, 1, 16}, {2, 1, 8}, {3, 3, 16}, {4, 1, 4}, {6, 3, 8}, {8, 1, 2}, {12, 3, 4}, {15, 15, 16},
            {16, 1, 1}, {24, 3, 2}, {32, 2, 1}, {0, 0, 1}};
        for (int[] n : cases) {
            PictureRing x = pair(0, 4);
            spread(x, 0, 4, n[0]);
            levelIs(n[0] + " more", x, 1, n[1], n[2]);
            PictureRing y = pair(0, 4);
            spread(y, 1, 0, n[0]);
            levelIs(n[0] + " less", y, 1, -n[1], n[2]);
        }
    }

    /** So much more in the CELLS of four COLUMNS, 3 at most in each. */
    private static void spread(PictureRing x, int k, int column, int more) {
        int left = more;
        for (int n = 0; n < 16 && left > 0; n++) {
            raise(x, k, n / 4, column + n % 4, Math.min(3, left));
            left -= 3;
        }
    }

    private static void levelNumbers() {
        Check.sentence("level: BAD: -999999.");
        PictureRing x = pair(0, 4);
        int[][] wrong = {{-1, 0}, {2, 0}, {0, -1}, {0, 2}, {2, 2}, {LEAST, 0}, {MOST, 0}, {0, LEAST}, {0, MOST}};
        for (int[] n : wrong) {
            Check.due("level(" + n[0] + ", " + n[1] + ")", x.level(n[0], n[1]), -999999);
        }
        Check.due("told(0)", x.told(0), wrong.length);
    }

    private static void restOpen() {
        Check.sentence("Not CLOSED: REST is 0 (0 by 1)");
        restIs("no PICTURE", new PictureRing(), 0, 1);
        restIs("one", Scenes.blank(1), 0, 1);
        restIs("two apart", Scenes.blank(2), 0, 1);
        PictureRing x = pair(0, 4);
        raise(x, 0, 0, 7, 3);
        restIs("a row", x, 0, 1);
        PictureRing y = Scenes.ring(new int[] {0, 1}, new int[] {0, 5});
        restIs("a ring", y, 35, 6);
        y.shot(0, 0, 0);
        restIs("with one that lies aside", y, 0, 1);
        y.drops(2);
        restIs("a ring again", y, 35, 6);
    }

    private static void restClosed() {
        Check.sentence("REST is that sum");
        PictureRing x = Scenes.ring(new int[] {1, 4}, new int[] {0, 4}, new int[] {-1, 4});
        raise(x, 0, 1, 7, 2);
        // 2 by 12 off in all; 1 by 12, by 16 and by 12 together are 11 by 48
        restIs("2 by 12, times itself, by 11 by 48", x, 4, 33);
        levelIs("2 by 12, less 4 by 11 of it", x, 1, 7, 66);
        levelIs("less 3 by 11 of it", x, 2, 2, 33);
    }

    private static void restNumbers() {
        Check.sentence("rest: BAD.");
        PictureRing x = pair(0, 4);
        for (int what : new int[] {-1, 2, LEAST, MOST}) {
            Check.due("rest(" + what + ")", x.rest(what), BAD);
        }
        Check.due("told(0)", x.told(0), 4);
    }

    // ---- promise 20

    private static int bits(int from, int to) {
        int bits = 0;
        for (int c = from; c <= to; c++) {
            bits |= 1 << c;
        }
        return bits;
    }

    private static void showsOwnSeam() {
        Check.sentence("up to the COLUMN ahead of its own SEAM's at r (up to 7, if there is none)");
        for (int f = 1; f <= 5; f++) {
            for (int at = f; at <= 7; at++) {
                int[][] gaps = new int[4][8 - f];
                for (int[] row : gaps) {
                    java.util.Arrays.fill(row, 1);
                    row[at - f] = 0;
                }
                PictureRing x = gaps(0, f, gaps);
                Check.due("SEAM at " + at + ": shows(0, 2)", x.shows(0, 2), bits(0, at - 1));
                Check.due("SEAM at " + at + ", f " + f + ": shows(1, 2)", x.shows(1, 2), bits(at - f, 7));
            }
        }
        Check.due("alone", Scenes.blank(1).shows(0, 0), 255);
        Check.due("no FOLLOWER", pair(0, 5).shows(1, 3), 255);
    }

    private static void showsFromTheOneAhead() {
        Check.sentence("from the SEAM of the LINK from the one AHEAD on (at r and e, a ROW of that one: its COLUMN less f)");
        int[][] shift = {{0, 3, 3, 3}, {3, 0, 3, 3}, {3, 3, 0, 3}, {3, 3, 3, 0}};
        PictureRing x = gaps(0, 4, shift);
        for (int r = 0; r < 4; r++) {
            Check.due("by 0: shows(0, " + r + ")", x.shows(0, r), bits(0, 3 + r));
            Check.due("by 0: shows(1, " + r + ")", x.shows(1, r), bits(r, 7));
        }
        int[][] three = {{0, 3, 3, 3}, {3, 0, 3, 3}, {3, 3, 0, 3}};
        PictureRing lower = gaps(1, 4, three);
        PictureRing higher = gaps(-1, 4, three);
        for (int n = 0; n < 3; n++) {
            Check.due("by 1: shows(0, " + (n + 1) + ")", lower.shows(0, n + 1), bits(0, 3 + n));
            Check.due("by 1: shows(1, " + n + ")", lower.shows(1, n), bits(n, 7));
            Check.due("by -1: shows(0, " + n + ")", higher.shows(0, n), bits(0, 3 + n));
            Check.due("by -1: shows(1, " + (n + 1) + ")", higher.shows(1, n + 1), bits(n, 7));
        }
    }

    private static void showsNoSuchRow() {
        Check.sentence("from 0 on, if there is no such LINK or the SEAM has no such ROW");
        int[][] gaps = {{3, 3, 0}, {3, 3, 0}, {3, 3, 0}};
        PictureRing lower = gaps(1, 5, gaps);
        Check.due("by 1: no ROW 0 of its own SEAM", lower.shows(0, 0), 255);
        Check.due("by 1: ROW 1 of it", lower.shows(0, 1), bits(0, 6));
        Check.due("by 1: ROW 3 of the SEAM", lower.shows(1, 2), bits(2, 7));
        Check.due("by 1: no ROW 4", lower.shows(1, 3), 255);
        PictureRing higher = gaps(-1, 5, gaps);
        Check.due("by -1: no ROW 3 of its own SEAM", higher.shows(0, 3), 255);
        Check.due("by -1: ROW 2 of it", higher.shows(0, 2), bits(0, 6));
        Check.due("by -1: ROW 0 of the SEAM", higher.shows(1, 1), bits(2, 7));
        Check.due("by -1: no ROW -1", higher.shows(1, 0), 255);
        Check.due("none AHEAD", pair(0, 1).shows(0, 0), 1);
        // the ROW that the SEAM does not have is not one of the PICTURE's own SEAM either
        PictureRing x = Scenes.ring(new int[] {1, 4}, new int[] {0, 5}, new int[] {-1, 3});
        Check.due("by 1: its own SEAM has ROW 0", x.seam(1, 0), 5);
        Check.due("by 1: from 0 on", x.shows(1, 3), 31);
        Check.due("by -1: the SEAM ahead has ROW 2", x.seam(2, 2), 3);
        Check.due("by -1: from 0 on", x.shows(0, 0), 255);
        Check.due("by -1: from 0 on by the SEAM, too", x.shows(0, 1), 15);
    }

    private static void showsNothing() {
        Check.sentence("SHOWS COLUMNS from the SEAM of the one AHEAD up to the COLUMN ahead of its own SEAM's");
        for (int start = 1; start <= 7; start++) {
            for (int end = 1; end <= 7; end++) {
                PictureRing x = threeInARow(start, end);
                Check.due("SEAM of the one AHEAD", x.seam(0, 0), start);
                Check.due("its own", x.seam(1, 0), end);
                Check.due("from " + (start - 1) + " to " + (end - 1), x.shows(1, 0), bits(start - 1, end - 1));
            }
        }
    }

    /** Three by f 1; in ROW 0 one COLUMN alone is alike in 0 and 1, another in 1 and 2; below all are. */
    private static PictureRing threeInARow(int start, int end) {
        PictureRing x = Scenes.row(new int[] {0, 1}, new int[] {0, 1});
        x.paint(0, 1, 7, x.value(1, 1, 6));
        x.paint(2, 1, 4, x.value(1, 1, 5));
        for (int c = 1; c <= 7; c++) {
            raise(x, 0, 0, c, c == start ? 0 : 3);
            raise(x, 2, 0, c - 1, c == end ? 0 : 3);
        }
        return x;
    }

    private static void showsNumbers() {
        Check.sentence("shows: BAD.");
        PictureRing x = pair(0, 4);
        int[][] wrong = {{-1, 0}, {2, 0}, {0, -1}, {0, 4}, {2, 4}, {LEAST, 0}, {MOST, 0}, {0, LEAST}, {0, MOST}};
        for (int[] n : wrong) {
            Check.due("shows(" + n[0] + ", " + n[1] + ")", x.shows(n[0], n[1]), BAD);
        }
        Check.due("told(0)", x.told(0), wrong.length);
        Check.due("told(1)", x.told(1), 0);
    }

    // ---- promise 21

    private static void seenHalves() {
        Check.sentence("the nearest whole number (a half: the greater one), 0, if that is below it, 63, if it is above");
        // the LEVEL in parts of 16, the VALUE, what is seen
        int[][] cases = {{0, 0, 0}, {0, 63, 63}, {7, 10, 10}, {8, 10, 11}, {9, 10, 11}, {15, 10, 11}, {16, 10, 11},
            {23, 10, 11}, {24, 10, 12}, {-7, 10, 10}, {-8, 10, 10}, {-9, 10, 9}, {-16, 10, 9}, {-23, 10, 9},
            {-24, 10, 9}, {-25, 10, 8}, {8, 0, 1}, {7, 0, 0}, {-7, 0, 0}, {-8, 0, 0}, {-9, 0, 0}, {-24, 0, 0},
            {-8, 1, 1}, {-9, 1, 0}, {-24, 1, 0}, {-16, 1, 0}, {-17, 1, 0}, {7, 62, 62}, {8, 62, 63}, {9, 62, 63},
            {7, 63, 63}, {8, 63, 63}, {24, 63, 63}, {-8, 63, 63}, {-9, 63, 62}, {16, 62, 63}, {24, 62, 63}, {24, 61, 63}};
        for (int[] n : cases) {
            PictureRing x = pair(0, 4);
            spread(x, n[0] < 0 ? 1 : 0, n[0] < 0 ? 0 : 4, Math.abs(n[0]));
            x.paint(1, 0, 7, n[1]);
            Check.due(n[1] + " and " + n[0] + " by 16", x.seen(1, 0, 7), n[2]);
            x.paint(0, 0, 0, n[1]);
            Check.due("follows none: " + n[1], x.seen(0, 0, 0), n[1]);
        }
    }

    private static void seenClosed() {
        Check.sentence("VALUE and LEVEL of a CELL together");
        PictureRing x = Scenes.ring(new int[] {0, 4}, new int[] {0, 4}, new int[] {0, 4});
        // 24 by 16 in all: LEVELS 1 and 1 by 2
        for (int c = 4; c < 8; c++) {
            raise(x, 0, 0, c, 3);
            raise(x, 0, 3, c, 3);
        }
        Check.due("level(1, 0)", x.level(1, 0), 1);
        Check.due("level(2, 1)", x.level(2, 1), 2);
        Check.due("0 and 0", x.seen(0, 3, 0), 0);
        Check.due("0 and 1", x.seen(1, 3, 7), 1);
        Check.due("0 and 1 by 2", x.seen(2, 0, 0), 1);
        Check.due("a mark of 20 and 1", x.seen(1, 1, 6), 21);
        Check.due("a mark of 20 and 1 by 2", x.seen(2, 1, 2), 21);
    }

    private static void seenNumbers() {
        Check.sentence("seen: BAD.");
        PictureRing x = pair(0, 4);
        int[][] wrong = {{-1, 0, 0}, {2, 0, 0}, {0, -1, 0}, {0, 4, 0}, {0, 0, -1}, {0, 0, 8}, {LEAST, 0, 0}, {MOST, 0, 0},
            {0, LEAST, 0}, {0, MOST, 0}, {0, 0, LEAST}, {0, 0, MOST}};
        for (int[] n : wrong) {
            Check.due("seen of " + java.util.Arrays.toString(n), x.seen(n[0], n[1], n[2]), BAD);
        }
        Check.due("told(0)", x.told(0), wrong.length);
        Check.due("the last CELL", x.seen(1, 3, 7), 0);
    }

    // ---- all of them

    private static void lastOfSix() {
        Check.sentence("PICTURES 0 .. 5: the last one, and the one that follows it, by e 1");
        PictureRing x = Scenes.ring(new int[] {0, 4}, new int[] {0, 4}, new int[] {0, 4}, new int[] {0, 4},
                new int[] {0, 4}, new int[] {1, 4});
        x.sets(1, 5);
        int[][] gaps = {{1, 0, 0, 3}, {3, 2, 3, 3}, {1, 0, 0, 0}};
        for (int n = 0; n < 12; n++) {
            raise(x, 5, 1 + n / 4, 4 + n % 4, gaps[n / 4][n % 4]);
        }
        Check.due("corners(5)", x.corners(5), 1 << 1 | 1 << 11);
        Check.due("chain(5, 0)", x.chain(5, 0), 0);
        Check.due("chain(0, 1)", x.chain(0, 1), 5);
        Check.due("chain(5, 1)", x.chain(5, 1), 4);
        Check.due("link(5, 0, 1)", x.link(5, 0, 1), 2);
        Check.due("place(5, 0)", x.place(5, 0), 20);
        Check.due("place(5, 1)", x.place(5, 1), 19);
        int[] overlap = {12, 16, 2, 2016};
        for (int what = 0; what <= 3; what++) {
            Check.due("overlap(5, " + what + ")", x.overlap(5, what), overlap[what]);
        }
        seamIs("six", x, 5, NONE, 5, 5, 5);
        for (int k = 1; k <= 5; k++) {
            levelIs("six", x, k, -4 * k, 19);
        }
        restIs("six", x, 256, 57);
        int[] last = {255, 31, 31, 31};
        int[] first = {14, 14, 14, 15};
        for (int r = 0; r < 4; r++) {
            Check.due("shows(5, " + r + ")", x.shows(5, r), last[r]);
            Check.due("shows(0, " + r + ")", x.shows(0, r), first[r]);
        }
        Check.due("seen(5, 1, 2), 50 less 20 by 19", x.seen(5, 1, 2), 49);
        Check.due("seen(5, 2, 6), 63 less 20 by 19", x.seen(5, 2, 6), 62);
        Check.due("seen(5, 0, 0), 0 less 20 by 19", x.seen(5, 0, 0), 0);
    }
}
