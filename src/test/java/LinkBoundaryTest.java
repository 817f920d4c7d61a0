/** The boundary cases of promises 9 to 12: CHANGE, CORNERS, VOTES and LINKS. */
public final class LinkBoundaryTest {
    private static final int NONE = PictureRing.NONE, BAD = PictureRing.BAD;
    private static final int LEAST = Integer.MIN_VALUE, MOST = Integer.MAX_VALUE;

    private LinkBoundaryTest() { }

    public static void main(String[] args) {
        innerCells();
        changeOfEachPair();
        changeAddsBothWays();
        changeLeastAndMost();
        changeOfEachPicture();
        cornersBits();
        cornersAtT();
        cornersNumbers();
        votesAtA();
        votesFarthestApart();
        votesOfCornersAlone();
        votesAtTheEdge();
        votesCounted();
        votesNumbers();
        linkOfEachShift();
        linkOfLikeShifts();
        linkOfMoreVotes();
        linkOfNone();
        linkNumbers();
        Check.end();
    }

    // ---- promise 9

    private static void innerCells() {
        Check.sentence("INNER CELLS: ROWS 1, 2, COLUMNS 1 .. 6. BAD: no INNER CELL, too.");
        PictureRing x = Scenes.blank(2);
        int refused = 0;
        for (int r = -1; r <= 4; r++) {
            for (int c = -1; c <= 8; c++) {
                boolean inner = (r == 1 || r == 2) && c != -1 && c != 0 && c != 7 && c != 8;
                Check.due("change(1, " + r + ", " + c + ")", x.change(1, r, c), inner ? 0 : BAD);
                refused += inner ? 0 : 1;
            }
        }
        int[][] wrong = {{-1, 1, 1}, {2, 1, 1}, {LEAST, 1, 1}, {MOST, 1, 1}, {0, LEAST, 1}, {0, MOST, 1},
            {0, 1, LEAST}, {0, 1, MOST}};
        for (int[] n : wrong) {
            Check.due("change of " + java.util.Arrays.toString(n), x.change(n[0], n[1], n[2]), BAD);
        }
        Check.due("told(0)", x.told(0), refused + wrong.length);
    }

    private static void changeOfEachPair() {
        Check.sentence("the least of four sums: left and right, above and below, both pairs slantwise");
        int[][] ways = {{0, 1}, {1, 0}, {1, 1}, {1, -1}};
        for (int n = 0; n < 12; n++) {
            int r = 1 + n / 6;
            int c = 1 + n % 6;
            PictureRing x = Scenes.blank(1);
            x.paint(0, r, c, 60);
            for (int[] way : ways) {
                String cell = "CELL " + r + ", " + c + " by " + way[0] + ", " + way[1];
                x.paint(0, r + way[0], c + way[1], 50);
                Check.due(cell + ", one of them near", x.change(0, r, c), 70);
                x.paint(0, r - way[0], c - way[1], 57);
                Check.due(cell + ", both near", x.change(0, r, c), 13);
                x.paint(0, r + way[0], c + way[1], 0);
                Check.due(cell + ", the other near", x.change(0, r, c), 63);
                x.paint(0, r - way[0], c - way[1], 0);
            }
            Check.due("none near", x.change(0, r, c), 120);
        }
    }

    private static void changeAddsBothWays() {
        Check.sentence("how far its VALUE is from that of the one and from that of the other, together");
        PictureRing x = around(30, 30 + 4, 30 - 4);
        Check.due("one above it, the other below", x.change(0, 1, 3), 8);
        Check.due("both above", around(30, 34, 35).change(0, 1, 3), 9);
        Check.due("both below", around(30, 26, 25).change(0, 1, 3), 9);
        Check.due("as far as one", around(30, 30, 21).change(0, 1, 3), 9);
    }

    /** CELL 1, 3 and the two left and right of it; the others are 63 away or nearly so. */
    private static PictureRing around(int v, int left, int right) {
        PictureRing x = Scenes.blank(1);
        for (int c = 2; c <= 4; c++) {
            x.paint(0, 0, c, 63);
            x.paint(0, 2, c, 63);
        }
        x.paint(0, 1, 3, v);
        x.paint(0, 1, 2, left);
        x.paint(0, 1, 4, right);
        return x;
    }

    private static void changeLeastAndMost() {
        Check.sentence("T (1 .. 126): a CHANGE is 126 at most");
        PictureRing x = Scenes.blank(1);
        Check.due("0 among 0", x.change(0, 2, 6), 0);
        x.paint(0, 2, 6, 63);
        Check.due("63 among 0", x.change(0, 2, 6), 126);
        x.paint(0, 2, 6, 1);
        Check.due("1 among 0", x.change(0, 2, 6), 2);
        for (int c = 0; c < 3; c++) {
            for (int r = 0; r < 3; r++) {
                x.paint(0, r, c, 63);
            }
        }
        x.paint(0, 1, 1, 0);
        Check.due("0 among 63", x.change(0, 1, 1), 126);
    }

    private static void changeOfEachPicture() {
        Check.sentence("CHANGE of an INNER CELL (of the PICTURE that is told, the last one, too)");
        PictureRing x = Scenes.blank(6);
        for (int k = 0; k < 6; k++) {
            x.paint(k, 1, 1, 10 + k);
            x.paint(k, 2, 6, 30 + k);
        }
        for (int k = 0; k < 6; k++) {
            Check.due("change(" + k + ", 1, 1)", x.change(k, 1, 1), 2 * (10 + k));
            Check.due("change(" + k + ", 2, 6)", x.change(k, 2, 6), 2 * (30 + k));
        }
        x.drops(0);
        Check.due("change(4, 1, 1), one nearer", x.change(4, 1, 1), 30);
        Check.due("change(5, 1, 1), gone", x.change(5, 1, 1), BAD);
    }

    // ---- promise 10

    private static void cornersBits() {
        Check.sentence("bit 6 (r less 1) and (c less 1) for CELL r, c");
        for (int r = 0; r <= 3; r++) {
            for (int c = 0; c <= 7; c++) {
                PictureRing x = Scenes.blank(2);
                x.paint(1, r, c, 63);
                boolean inner = (r == 1 || r == 2) && c >= 1 && c <= 6;
                Check.due("CELL " + r + ", " + c + " alone", x.corners(1), inner ? 1 << 6 * (r - 1) + c - 1 : 0);
                Check.due("the other PICTURE", x.corners(0), 0);
            }
        }
        PictureRing all = Scenes.blank(1);
        int[][] cells = {{10, 50, 10, 50, 10, 50}, {10, 51, 10, 51, 10, 51}};
        for (int n = 0; n < 12; n++) {
            all.paint(0, 1 + n / 6, 1 + n % 6, cells[n / 6][n % 6]);
        }
        all.paint(0, 1, 7, 20);
        all.paint(0, 2, 7, 20);
        all.sets(0, 1);
        int want = 0;
        for (int n = 0; n < 12; n++) {
            want += all.change(0, 1 + n / 6, 1 + n % 6) >= 1 ? 1 << n : 0;
        }
        Check.due("all twelve", all.corners(0), 4095);
        Check.due("as their CHANGES tell", want, 4095);
    }

    private static void cornersAtT() {
        Check.sentence("CORNER: an INNER CELL of CHANGE T or more");
        PictureRing x = Scenes.blank(1);
        x.paint(0, 1, 1, 4);
        Check.due("CHANGE 8, T 8 at first", x.corners(0), 1);
        x.paint(0, 1, 1, 3);
        Check.due("CHANGE 6, T 8", x.corners(0), 0);
        // CHANGE 7: one of each pair is 1 above 0
        x.paint(0, 1, 1, 4);
        int[][] near = {{0, 0}, {0, 1}, {0, 2}, {1, 0}};
        for (int[] cell : near) {
            x.paint(0, cell[0], cell[1], 1);
        }
        Check.due("CHANGE 7", x.change(0, 1, 1), 7);
        Check.due("CHANGE 7, T 8", x.corners(0), 0);
        x.sets(0, 7);
        Check.due("CHANGE 7, T 7", x.corners(0), 1);
        x.sets(0, 6);
        Check.due("CHANGE 7, T 6", x.corners(0), 1);
        PictureRing y = Scenes.blank(1);
        y.paint(0, 2, 6, 63);
        y.sets(0, 126);
        Check.due("CHANGE 126, T 126", y.corners(0), 1 << 11);
        y.paint(0, 2, 6, 62);
        Check.due("CHANGE 124, T 126", y.corners(0), 0);
        y.sets(0, 1);
        Check.due("CHANGE 0, T 1: the others are none", y.corners(0), 1 << 11);
    }

    private static void cornersNumbers() {
        Check.sentence("corners: BAD.");
        PictureRing x = Scenes.blank(6);
        Check.due("corners(5)", x.corners(5), 0);
        for (int k : new int[] {-1, 6, LEAST, MOST}) {
            Check.due("corners(" + k + ")", x.corners(k), BAD);
        }
        x.drops(0);
        Check.due("corners(5), gone", x.corners(5), BAD);
        Check.due("told(0)", x.told(0), 5);
    }

    // ---- promise 11

    private static void votesAtA() {
        Check.sentence("a CORNER whose VALUE is A (0 .. 63; 12 at first) or less from it");
        int[][] cases = {{40, 28, 12, 1}, {40, 27, 12, 0}, {28, 40, 12, 1}, {27, 40, 12, 0}, {40, 40, 0, 1},
            {40, 41, 0, 0}, {41, 40, 0, 0}, {63, 4, 59, 1}, {63, 4, 58, 0}, {4, 63, 59, 1}, {4, 63, 58, 0},
            {63, 4, 63, 1}, {40, 41, 1, 1}, {40, 42, 1, 0}};
        for (int[] n : cases) {
            PictureRing x = Scenes.blank(2);
            if (n[2] != 12) {
                x.sets(1, n[2]);
            }
            x.paint(0, 1, 5, n[0]);
            x.paint(1, 1, 2, n[1]);
            Check.due("VALUES " + n[0] + ", " + n[1] + " by A " + n[2], x.votes(0, 1, 0, 3), n[3]);
        }
    }

    private static void votesFarthestApart() {
        Check.sentence("A (0 .. 63): VALUES are 63 apart at most");
        for (int way = 0; way < 2; way++) {
            PictureRing x = Scenes.blank(2);
            x.paint(way, 1, way == 0 ? 5 : 2, 63);
            // a CORNER of VALUE 0 among 63
            for (int n = 0; n < 9; n++) {
                x.paint(1 - way, n / 3, (way == 0 ? 1 : 4) + n % 3, n == 4 ? 0 : 63);
            }
            x.sets(1, 62);
            Check.due("way " + way + ", A 62", x.votes(0, 1, 0, 3), 0);
            x.sets(1, 63);
            Check.due("way " + way + ", A 63", x.votes(0, 1, 0, 3), 1);
        }
    }

    private static void votesOfCornersAlone() {
        Check.sentence("how many CORNERS of a there are, such that .. of b is a CORNER");
        PictureRing x = Scenes.blank(2);
        x.sets(1, 63);
        x.paint(0, 1, 5, 10);
        Check.due("none of b", x.votes(0, 1, 0, 3), 0);
        x.paint(1, 1, 2, 10);
        Check.due("both", x.votes(0, 1, 0, 3), 1);
        x.paint(1, 1, 1, 10);
        x.paint(1, 1, 3, 10);
        Check.due("that of b is none by its CHANGE", x.votes(0, 1, 0, 3), 0);
        x.paint(1, 1, 1, 0);
        x.paint(1, 1, 3, 0);
        x.paint(0, 0, 5, 10);
        x.paint(0, 2, 5, 10);
        Check.due("that of a is none by its CHANGE", x.votes(0, 1, 0, 3), 0);
    }

    private static void votesAtTheEdge() {
        Check.sentence("ROW r less e, COLUMN c less f of b is a CORNER");
        for (int e = -1; e <= 1; e++) {
            for (int f = 1; f <= 5; f++) {
                for (int n = 0; n < 12; n++) {
                    votesOfOne(e, f, 1 + n / 6, 1 + n % 6);
                }
            }
        }
    }

    /** One CORNER of a, and all around CELLS of b bright where it would lie, at the edge too. */
    private static void votesOfOne(int e, int f, int r, int c) {
        PictureRing x = Scenes.blank(2);
        x.paint(0, r, c, 40);
        boolean there = r - e >= 0 && r - e <= 3 && c - f >= 0 && c - f <= 7;
        if (there) {
            x.paint(1, r - e, c - f, 40);
        }
        boolean inner = r - e >= 1 && r - e <= 2 && c - f >= 1 && c - f <= 6;
        String of = "CELL " + r + ", " + c + " by " + e + ", " + f;
        Check.due(of, x.votes(0, 1, e, f), inner ? 1 : 0);
        Check.due(of + ", from the other", x.votes(1, 0, e, f), 0);
    }

    private static void votesCounted() {
        Check.sentence("how many CORNERS of a there are");
        PictureRing x = Scenes.blank(2);
        x.sets(0, 1);
        x.sets(1, 63);
        for (int k = 0; k < 2; k++) {
            for (int c = 1; c <= 6; c++) {
                x.paint(k, 1, c, c % 2 == 0 ? 50 : 10);
                x.paint(k, 2, c, c % 2 == 0 ? 51 : 10);
            }
            x.paint(k, 1, 7, 20);
            x.paint(k, 2, 7, 20);
        }
        for (int f = 1; f <= 5; f++) {
            Check.due("all there, e 0, f " + f, x.votes(0, 1, 0, f), 12 - 2 * f);
            Check.due("all there, e 1, f " + f, x.votes(0, 1, 1, f), 6 - f);
            Check.due("all there, e -1, f " + f, x.votes(0, 1, -1, f), 6 - f);
        }
        x.sets(1, 1);
        Check.due("every other COLUMN is alike", x.votes(0, 1, 0, 2), 8);
        Check.due("and one COLUMN on is not", x.votes(0, 1, 0, 1), 0);
    }

    private static void votesNumbers() {
        Check.sentence("SHIFT e, f (e -1 .. 1, f 1 .. 5). BAD: alike, too.");
        PictureRing x = Scenes.blank(3);
        int[][] right = {{0, 2, -1, 1}, {2, 0, 1, 5}, {1, 2, 0, 3}};
        for (int[] n : right) {
            Check.due("votes of " + java.util.Arrays.toString(n), x.votes(n[0], n[1], n[2], n[3]), 0);
        }
        int[][] wrong = {{0, 0, 0, 1}, {2, 2, 0, 1}, {-1, 0, 0, 1}, {0, -1, 0, 1}, {3, 0, 0, 1}, {0, 3, 0, 1},
            {3, 3, 0, 1}, {0, 1, -2, 1}, {0, 1, 2, 1}, {0, 1, 0, 0}, {0, 1, 0, 6}, {0, 1, 0, -1}, {LEAST, 0, 0, 1},
            {0, MOST, 0, 1}, {0, 1, LEAST, 1}, {0, 1, MOST, 1}, {0, 1, 0, LEAST}, {0, 1, 0, MOST}};
        for (int[] n : wrong) {
            Check.due("votes of " + java.util.Arrays.toString(n), x.votes(n[0], n[1], n[2], n[3]), BAD);
        }
        Check.due("told(0)", x.told(0), wrong.length);
    }

    // ---- promise 12

    private static void linkIs(String of, PictureRing x, int a, int b, int votes, int e, int f) {
        Check.due(of + ": VOTES", x.link(a, b, 0), votes);
        Check.due(of + ": e and 1", x.link(a, b, 1), votes == 0 ? NONE : e + 1);
        Check.due(of + ": f", x.link(a, b, 2), votes == 0 ? NONE : f);
    }

    private static void linkOfEachShift() {
        Check.sentence("LINK from a to b (unlike ones): the SHIFT of the most VOTES");
        for (int e = -1; e <= 1; e++) {
            for (int f = 1; f <= 5; f++) {
                PictureRing x = Scenes.blank(3);
                Scenes.mark(x, 2, 0, e, f, 40);
                linkIs("SHIFT " + e + ", " + f, x, 2, 0, 1, e, f);
                linkIs("back from it", x, 0, 2, 0, 0, 0);
                linkIs("to the third", x, 2, 1, 0, 0, 0);
            }
        }
    }

    /** Of like VOTES the one that stands ahead here goes ahead. */
    private static final int[][] IN_ORDER = {{0, 1}, {0, 2}, {0, 3}, {0, 4}, {0, 5}, {-1, 1}, {1, 1}, {-1, 2},
        {1, 2}, {-1, 3}, {1, 3}, {-1, 4}, {1, 4}, {-1, 5}, {1, 5}};

    private static void linkOfLikeShifts() {
        Check.sentence("of like ones that of the least e without its sign, then the least f, then the least e");
        for (int i = 0; i < IN_ORDER.length; i++) {
            for (int j = i + 1; j < IN_ORDER.length; j++) {
                PictureRing x = Scenes.blank(2);
                markBoth(x, IN_ORDER[i], IN_ORDER[j], 40);
                String of = java.util.Arrays.toString(IN_ORDER[i]) + " and " + java.util.Arrays.toString(IN_ORDER[j]);
                Check.due(of + ": VOTES of the one", x.votes(0, 1, IN_ORDER[i][0], IN_ORDER[i][1]), 1);
                Check.due(of + ": VOTES of the other", x.votes(0, 1, IN_ORDER[j][0], IN_ORDER[j][1]), 1);
                linkIs(of, x, 0, 1, 1, IN_ORDER[i][0], IN_ORDER[i][1]);
            }
        }
    }

    /** Two marks of b for one of a; where their ROWS lie too far apart, two pairs of marks. */
    private static void markBoth(PictureRing x, int[] s, int[] t, int v) {
        if (s[0] * t[0] == -1) {
            Scenes.mark(x, 0, 1, s[0], s[1], v);
            Scenes.mark(x, 0, 1, t[0], t[1], v - 20);
            return;
        }
        int r = s[0] == 1 || t[0] == 1 ? 2 : 1;
        x.paint(0, r, 6, v);
        x.paint(1, r - s[0], 6 - s[1], v);
        x.paint(1, r - t[0], 6 - t[1], v);
    }

    private static void linkOfMoreVotes() {
        Check.sentence("the SHIFT of the most VOTES (ahead of all that is told of like ones)");
        int[][] shifts = {{1, 4}, {-1, 4}, {0, 4}, {1, 3}, {0, 3}};
        for (int[] s : shifts) {
            PictureRing x = Scenes.blank(2);
            // a VOTE for the SHIFT that goes ahead of all like ones, and two for this
            x.sets(1, 0);
            x.paint(0, 1, 2, 40);
            x.paint(1, 1, 1, 40);
            int r = s[0] == 1 ? 2 : 1;
            x.paint(0, r, 6, 60);
            x.paint(1, r - s[0], 6 - s[1], 60);
            String of = java.util.Arrays.toString(s);
            linkIs(of + ", one VOTE each", x, 0, 1, 1, 0, 1);
            x.paint(0, r, 5, 20);
            x.paint(1, r - s[0], 5 - s[1], 20);
            linkIs(of + ", two VOTES", x, 0, 1, 2, s[0], s[1]);
        }
    }

    private static void linkOfNone() {
        Check.sentence("if none has a VOTE, there is no LINK. (0: there is none); 1, 2: NONE");
        PictureRing x = Scenes.blank(2);
        linkIs("no CORNERS", x, 0, 1, 0, 0, 0);
        x.paint(0, 1, 6, 40);
        x.paint(1, 1, 3, 53);
        linkIs("VALUES 13 apart", x, 0, 1, 0, 0, 0);
        x.paint(1, 1, 3, 52);
        linkIs("VALUES 12 apart", x, 0, 1, 1, 0, 3);
        x.paint(1, 1, 3, 0);
        x.paint(1, 1, 6, 40);
        linkIs("f 0 is no SHIFT", x, 0, 1, 0, 0, 0);
        Check.due("nothing was refused", x.told(0) + x.told(1), 0);
    }

    private static void linkNumbers() {
        Check.sentence("link: BAD: alike, too.");
        PictureRing x = Scenes.blank(3);
        int[][] wrong = {{0, 0, 0}, {2, 2, 2}, {-1, 0, 0}, {0, -1, 0}, {3, 0, 0}, {0, 3, 0}, {3, 3, 0}, {0, 1, -1},
            {0, 1, 3}, {LEAST, 0, 0}, {MOST, 0, 0}, {0, LEAST, 0}, {0, MOST, 0}, {0, 1, LEAST}, {0, 1, MOST}};
        for (int[] n : wrong) {
            Check.due("link of " + java.util.Arrays.toString(n), x.link(n[0], n[1], n[2]), BAD);
        }
        Check.due("told(0)", x.told(0), wrong.length);
        Check.due("link(2, 1, 2)", x.link(2, 1, 2), NONE);
    }
}
