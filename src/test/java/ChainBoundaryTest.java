/** The boundary cases of promises 13 to 15: THE CHAIN, TURN, DRIFT, RIGHT LINKS and PLACES. */
public final class ChainBoundaryTest {
    private static final int NONE = PictureRing.NONE, BAD = PictureRing.BAD, NO = PictureRing.NO;
    private static final int LEAST = Integer.MIN_VALUE, MOST = Integer.MAX_VALUE;

    private ChainBoundaryTest() { }

    public static void main(String[] args) {
        mostVotesFirst();
        thenTheLeastA();
        thenTheLeastB();
        leastAAheadOfLeastB();
        noFollowerYet();
        followsNoneYet();
        notRoundASmallerWay();
        roundAllOfThem();
        notTakenLater();
        unlikeOnes();
        chainNone();
        chainNumbers();
        closedFromTwoOn();
        turnLeastAndMost();
        driftLeastAndMost();
        followNone();
        rightAroundTheEnd();
        rightByRows();
        rightByP();
        rightOfTakenAlone();
        allNumbers();
        placeOfPicture0();
        placeToTheRight();
        placeByFollowers();
        placeLowerRounded();
        placeNotClosed();
        Check.end();
    }

    // ---- what several tests share

    private static final int[][] MARKS = {{1, 6}, {2, 6}, {1, 5}, {2, 5}};

    /** A LINK from a to b by e 0 and f, with as many VOTES; VALUES from v on are this LINK's alone. */
    private static void vote(PictureRing x, int a, int b, int f, int votes, int v) {
        for (int i = 0; i < votes; i++) {
            x.paint(a, MARKS[i][0], MARKS[i][1], v + i);
            x.paint(b, MARKS[i][0], MARKS[i][1] - f, v + i);
        }
        Check.due("VOTES from " + a + " to " + b, x.link(a, b, 0), votes);
    }

    /** Blank PICTURES, of which only equal VALUES vote. */
    private static PictureRing exact(int pictures) {
        PictureRing x = Scenes.blank(pictures);
        x.sets(1, 0);
        return x;
    }

    private static void followersAre(String of, PictureRing x, int... followers) {
        for (int k = 0; k < followers.length; k++) {
            Check.due(of + ": FOLLOWER of " + k, x.chain(k, 0), followers[k]);
            int ahead = NONE;
            for (int a = 0; a < followers.length; a++) {
                ahead = followers[a] == k ? a : ahead;
            }
            Check.due(of + ": AHEAD of " + k, x.chain(k, 1), ahead);
        }
    }

    private static void allIs(String of, PictureRing x, int... all) {
        for (int what = 0; what < all.length; what++) {
            Check.due(of + ": all(" + what + ")", x.all(what), all[what]);
        }
    }

    // ---- promise 13

    private static void mostVotesFirst() {
        Check.sentence("all LINKS, those of the most VOTES first");
        for (int votes = 1; votes <= 3; votes++) {
            PictureRing x = exact(3);
            vote(x, 0, 2, 2, votes, 20);
            vote(x, 1, 2, 4, votes + 1, 40);
            followersAre(votes + " and one more", x, NONE, 2, NONE);
            PictureRing y = exact(3);
            vote(y, 0, 1, 2, votes, 20);
            y.paint(0, 1, 3, 50);
            y.paint(2, 1, 1, 50);
            followersAre(votes + " and one", y, 1, NONE, NONE);
        }
        PictureRing z = exact(3);
        vote(z, 0, 1, 4, 1, 20);
        vote(z, 1, 0, 4, 2, 40);
        followersAre("round two of three, by VOTES", z, NONE, 0, NONE);
    }

    private static void thenTheLeastA() {
        Check.sentence("of like ones the least a");
        for (int last = 2; last <= 5; last++) {
            for (int first = 1; first < last; first++) {
                PictureRing x = exact(6);
                x.paint(first, 1, 6, 20);
                x.paint(last, 1, 6, 20);
                x.paint(0, 1, 2, 20);
                Check.due("one VOTE", x.link(first, 0, 0), 1);
                Check.due("and one", x.link(last, 0, 0), 1);
                Check.due("AHEAD of 0, of " + first + " and " + last, x.chain(0, 1), first);
            }
        }
    }

    private static void thenTheLeastB() {
        Check.sentence("then the least b");
        for (int last = 1; last <= 4; last++) {
            for (int first = 0; first < last; first++) {
                PictureRing x = exact(6);
                x.paint(5, 1, 6, 20);
                x.paint(last, 1, 2, 20);
                x.paint(first, 1, 2, 20);
                Check.due("one VOTE", x.link(5, first, 0), 1);
                Check.due("and one", x.link(5, last, 0), 1);
                Check.due("FOLLOWER of 5, of " + first + " and " + last, x.chain(5, 0), first);
            }
        }
    }

    private static void leastAAheadOfLeastB() {
        Check.sentence("of like ones the least a, then the least b");
        PictureRing x = exact(4);
        vote(x, 0, 2, 3, 1, 20);
        vote(x, 2, 1, 3, 1, 30);
        vote(x, 1, 0, 3, 1, 40);
        followersAre("round three of four, the greatest a is left", x, 2, 0, NONE, NONE);
    }

    private static void noFollowerYet() {
        Check.sentence("taken, if a has no FOLLOWER yet");
        PictureRing x = exact(3);
        vote(x, 0, 1, 4, 1, 20);
        x.paint(2, 1, 3, 20);
        Check.due("LINK from 0 to 2", x.link(0, 2, 0), 1);
        followersAre("0 has one", x, 1, NONE, NONE);
        allIs("0 has one", x, 1, 0, 4, 6, 0, 2);
    }

    private static void followsNoneYet() {
        Check.sentence("b follows no PICTURE yet");
        PictureRing x = exact(3);
        vote(x, 0, 2, 4, 1, 20);
        x.paint(1, 1, 6, 20);
        Check.due("LINK from 1 to 2", x.link(1, 2, 0), 1);
        followersAre("2 follows 0", x, 2, NONE, NONE);
        x.paint(0, 1, 6, 0);
        followersAre("2 followed none", x, NONE, 2, NONE);
    }

    private static void notRoundASmallerWay() {
        Check.sentence("b does not lead, from FOLLOWER to FOLLOWER, to a");
        for (int round = 2; round <= 5; round++) {
            int[][] shifts = new int[round][];
            int[] followers = new int[round + 1];
            for (int k = 0; k < round; k++) {
                shifts[k] = new int[] {0, 2};
                followers[k] = k + 1 < round ? k + 1 : NONE;
            }
            followers[round] = NONE;
            PictureRing x = Scenes.join(Scenes.blank(round + 1), Scenes.counting(round), shifts);
            Check.due("the LINK that would close it is there", x.link(round - 1, 0, 0), 1);
            followersAre("round " + round + " of " + (round + 1), x, followers);
            allIs("round " + round + " of " + (round + 1), x, round - 1, 0);
            x.drops(round);
            followers[round - 1] = 0;
            followersAre("round " + round + " of all", x, java.util.Arrays.copyOf(followers, round));
            allIs("round " + round + " of all", x, round, 1);
        }
    }

    private static void roundAllOfThem() {
        Check.sentence("unless all PICTURES lie on that way");
        PictureRing x = Scenes.ring(new int[] {0, 2}, new int[] {0, 3}, new int[] {0, 4});
        followersAre("three", x, 1, 2, 0);
        x.shot(0, 0, 0);
        followersAre("one more that lies aside", x, 1, 2, NONE, NONE);
        // two rows of two: each leads only to its own end
        PictureRing y = exact(4);
        vote(y, 0, 1, 2, 2, 20);
        vote(y, 2, 3, 2, 2, 30);
        vote(y, 1, 2, 4, 1, 40);
        followersAre("the ends of two rows", y, 1, 2, 3, NONE);
        y.paint(3, 2, 6, 50);
        y.paint(0, 2, 1, 50);
        followersAre("and round all", y, 1, 2, 3, 0);
    }

    private static void notTakenLater() {
        Check.sentence("(one that is not taken then is not taken later)");
        PictureRing x = exact(3);
        vote(x, 0, 1, 4, 3, 20);
        vote(x, 1, 0, 4, 2, 40);
        followersAre("1 has none, and may not lead back yet", x, 1, NONE, NONE);
        x.paint(1, 1, 4, 50);
        x.paint(2, 1, 2, 50);
        Check.due("LINK from 1 to 2", x.link(1, 2, 0), 1);
        followersAre("of fewer VOTES, to one that lay aside", x, 1, 2, NONE);
        x.paint(2, 2, 6, 60);
        x.paint(0, 2, 4, 60);
        Check.due("LINK from 2 to 0", x.link(2, 0, 0), 1);
        Check.due("LINK from 1 to 0 is there yet", x.link(1, 0, 0), 2);
        followersAre("the last one goes round all", x, 1, 2, 0);
        allIs("the last one goes round all", x, 3, 1, 8, 6, 0, 0);
        x.drops(2);
        followersAre("without 2 it is taken", x, 1, 0);
        allIs("without 2 it is taken", x, 2, 1, 8, 6, 0, 0);
    }

    private static void unlikeOnes() {
        Check.sentence("LINK from a to b (unlike ones)");
        for (int n = 1; n <= 2; n++) {
            PictureRing x = Scenes.blank(n);
            x.paint(0, 1, 2, 40);
            x.paint(0, 1, 4, 40);
            x.paint(0, 2, 6, 40);
            followersAre("one that is like itself, of " + n, x, n == 1 ? new int[] {NONE} : new int[] {NONE, NONE});
            allIs("one that is like itself, of " + n, x, 0, 0, 0, 6, 0, n);
            Check.due("it has no FOLLOWER", x.seam(0, 0), NO);
            Check.due("it SHOWS all", x.shows(0, 1), 255);
        }
    }

    private static void chainNone() {
        Check.sentence("FOLLOWER of a PICTURE (what 0), the one AHEAD of it (1); NONE.");
        followersAre("one", Scenes.blank(1), NONE);
        followersAre("two without a LINK", Scenes.blank(2), NONE, NONE);
        followersAre("two in a row", Scenes.row(new int[] {0, 1}), 1, NONE);
        followersAre("two in a ring", Scenes.ring(new int[] {0, 1}, new int[] {0, 1}), 1, 0);
        PictureRing x = Scenes.ring(new int[] {0, 1}, new int[] {0, 1});
        x.drops(0);
        followersAre("one that is left", x, NONE);
    }

    private static void chainNumbers() {
        Check.sentence("chain: BAD.");
        PictureRing x = Scenes.blank(6);
        Check.due("chain(5, 1)", x.chain(5, 1), NONE);
        int[][] wrong = {{-1, 0}, {6, 0}, {0, -1}, {0, 2}, {6, 2}, {LEAST, 0}, {MOST, 0}, {0, LEAST}, {0, MOST}};
        for (int[] n : wrong) {
            Check.due("chain(" + n[0] + ", " + n[1] + ")", x.chain(n[0], n[1]), BAD);
        }
        Check.due("told(0)", x.told(0), wrong.length);
    }

    // ---- promise 14

    private static void closedFromTwoOn() {
        Check.sentence("CLOSED, if there are 2 PICTURES or more and each has a FOLLOWER");
        allIs("none", new PictureRing(), 0, 0, 0, 6, 0, 0);
        allIs("one", Scenes.blank(1), 0, 0, 0, 6, 0, 1);
        allIs("two without a LINK", Scenes.blank(2), 0, 0, 0, 6, 0, 2);
        allIs("two, one with a FOLLOWER", Scenes.row(new int[] {0, 1}), 1, 0, 1, 6, 0, 1);
        allIs("two, each", Scenes.ring(new int[] {0, 1}, new int[] {0, 2}), 2, 1, 3, 6, 0, 0);
        for (int n = 3; n <= 6; n++) {
            int[][] shifts = new int[n][];
            for (int k = 0; k < n; k++) {
                shifts[k] = new int[] {0, 2};
            }
            allIs(n + " in a ring", Scenes.ring(shifts), n, 1, 2 * n, 6, 0, 0);
            allIs(n + " in a row", Scenes.row(java.util.Arrays.copyOf(shifts, n - 1)), n - 1, 0, 2 * n - 2, 6, 0, 1);
        }
    }

    private static PictureRing alike(int n, int e, int f) {
        int[][] shifts = new int[n][];
        for (int k = 0; k < n; k++) {
            shifts[k] = new int[] {e, f};
        }
        return Scenes.ring(shifts);
    }

    private static void turnLeastAndMost() {
        Check.sentence("TURN: f of all taken LINKS together");
        Check.due("none", new PictureRing().all(2), 0);
        Check.due("two by 1", alike(2, 0, 1).all(2), 2);
        Check.due("six by 1", alike(6, 0, 1).all(2), 6);
        Check.due("six by 5", alike(6, 0, 5).all(2), 30);
        Check.due("open: of those taken", Scenes.row(new int[] {0, 5}, new int[] {0, 4}).all(2), 9);
    }

    private static void driftLeastAndMost() {
        Check.sentence("DRIFT: e of all (and 6)");
        Check.due("none", new PictureRing().all(3), 6);
        Check.due("six by -1", alike(6, -1, 3).all(3), 0);
        Check.due("five by -1", alike(5, -1, 3).all(3), 1);
        Check.due("six by 0", alike(6, 0, 3).all(3), 6);
        Check.due("six by 1", alike(6, 1, 3).all(3), 12);
        Check.due("both ways", Scenes.ring(new int[] {1, 2}, new int[] {-1, 2}, new int[] {1, 3}).all(3), 7);
        Check.due("open: of those taken", Scenes.row(new int[] {-1, 5}, new int[] {-1, 4}).all(3), 4);
    }

    private static void followNone() {
        Check.sentence("how many PICTURES follow none (5)");
        for (int n = 0; n <= 6; n++) {
            Check.due(n + " without a LINK", Scenes.blank(n).all(5), n);
        }
        Check.due("six in a ring", alike(6, 0, 2).all(5), 0);
        PictureRing x = exact(5);
        vote(x, 0, 1, 3, 1, 20);
        vote(x, 3, 2, 3, 1, 30);
        Check.due("two rows and one aside", x.all(5), 3);
    }

    /** Whether the LINK by e, f between two SHOTS is RIGHT. */
    private static void rightIs(int p, int[] a, int[] b, int e, int f, int right) {
        PictureRing x = Scenes.blankAt(p, new int[][] {a, b});
        Scenes.mark(x, 0, 1, e, f, 40);
        String of = "P " + p + ", " + a[0] + ", " + a[1] + " and " + b[0] + ", " + b[1] + " by " + e + ", " + f;
        Check.due(of + ": taken", x.all(0), 1);
        Check.due(of + ": RIGHT", x.all(4), right);
    }

    private static void rightAroundTheEnd() {
        Check.sentence("x of b is x of a and f, by P left over");
        for (int p : new int[] {12, 13}) {
            rightIs(p, new int[] {p - 4, 0}, new int[] {p - 1, 0}, 0, 3, 1);
            rightIs(p, new int[] {p - 4, 0}, new int[] {0, 0}, 0, 4, 1);
            rightIs(p, new int[] {p - 4, 0}, new int[] {1, 0}, 0, 5, 1);
            rightIs(p, new int[] {p - 1, 0}, new int[] {0, 0}, 0, 1, 1);
            rightIs(p, new int[] {p - 1, 0}, new int[] {4, 0}, 0, 5, 1);
            rightIs(p, new int[] {0, 0}, new int[] {5, 0}, 0, 5, 1);
            rightIs(p, new int[] {0, 0}, new int[] {4, 0}, 0, 5, 0);
            rightIs(p, new int[] {0, 0}, new int[] {6, 0}, 0, 5, 0);
            rightIs(p, new int[] {p - 1, 0}, new int[] {1, 0}, 0, 1, 0);
            rightIs(p, new int[] {p - 1, 0}, new int[] {p - 1, 0}, 0, 1, 0);
            rightIs(p, new int[] {3, 0}, new int[] {2, 0}, 0, 1, 0);
        }
    }

    private static void rightByRows() {
        Check.sentence("and y of b is y of a and e");
        for (int from = 0; from <= 2; from++) {
            for (int to = 0; to <= 2; to++) {
                for (int e = -1; e <= 1; e++) {
                    rightIs(12, new int[] {11, from}, new int[] {2, to}, e, 3, to - from == e ? 1 : 0);
                }
            }
        }
    }

    private static void rightByP() {
        Check.sentence("A taken LINK is RIGHT, if both SHOTS had the same P");
        int[][] cases = {{12, 12, 1}, {12, 13, 0}, {13, 12, 0}, {32, 32, 1}, {24, 12, 0}, {12, 24, 0}};
        for (int[] n : cases) {
            PictureRing x = new PictureRing();
            x.sets(1, 0);
            x.world(0, n[0]);
            x.shot(2, 1, 0);
            x.world(1, n[1]);
            x.shot(5, 1, 0);
            blackened(x, 2);
            Scenes.mark(x, 0, 1, 0, 3, 40);
            Check.due("P " + n[0] + " and " + n[1] + ": taken", x.all(0), 1);
            Check.due("P " + n[0] + " and " + n[1] + ": RIGHT", x.all(4), n[2]);
        }
        PictureRing y = Scenes.blankAt(12, new int[][] {{10, 0}, {2, 0}});
        Scenes.mark(y, 0, 1, 0, 4, 40);
        Check.due("P at the SHOTS", y.all(4), 1);
        y.world(0, 32);
        Check.due("not the P of now", y.all(4), 1);
        PictureRing z = Scenes.blankAt(32, new int[][] {{10, 0}, {2, 0}});
        Scenes.mark(z, 0, 1, 0, 4, 40);
        Check.due("another P at the SHOTS", z.all(4), 0);
        z.world(0, 12);
        Check.due("and again not that of now", z.all(4), 0);
    }

    /** VALUES 0 in these first PICTURES. */
    private static void blackened(PictureRing x, int pictures) {
        for (int k = 0; k < pictures; k++) {
            for (int n = 0; n < 32; n++) {
                x.paint(k, n / 8, n % 8, 0);
            }
        }
    }

    private static void rightOfTakenAlone() {
        Check.sentence("RIGHT LINKS (4): taken ones");
        PictureRing x = Scenes.blankAt(12, new int[][] {{0, 0}, {2, 0}, {4, 0}});
        x.sets(1, 0);
        vote(x, 0, 2, 3, 2, 20);
        vote(x, 1, 2, 2, 1, 40);
        Check.due("one is taken, and is not RIGHT", x.all(0), 1);
        Check.due("the other is not taken", x.all(4), 0);
        PictureRing six = Scenes.join(Scenes.blankAt(12, new int[][] {{0, 0}, {2, 0}, {4, 0}, {6, 0}, {8, 0}, {10, 0}}),
                Scenes.counting(6), new int[][] {{0, 2}, {0, 2}, {0, 2}, {0, 2}, {0, 2}, {0, 2}});
        Check.due("six RIGHT ones", six.all(4), 6);
        six.paint(0, 1, 6, 0);
        Check.due("one less", six.all(4), 5);
    }

    private static void allNumbers() {
        Check.sentence("all: BAD.");
        PictureRing x = Scenes.blank(2);
        Check.due("all(0)", x.all(0), 0);
        Check.due("all(5)", x.all(5), 2);
        for (int what : new int[] {-1, 6, LEAST, MOST}) {
            Check.due("all(" + what + ")", x.all(what), BAD);
        }
        Check.due("told(0)", x.told(0), 4);
    }

    // ---- promise 15

    private static void placeOfPicture0() {
        Check.sentence("PICTURE 0 lies at 0, 0");
        int[][] orders = {{0, 1, 2}, {0, 2, 1}, {1, 0, 2}, {2, 0, 1}};
        for (int[] order : orders) {
            PictureRing x = Scenes.join(Scenes.blank(3), order, new int[][] {{1, 2}, {1, 3}, {0, 4}});
            Check.due("to the right", x.place(0, 0), 0);
            Check.due("lower and 20", x.place(0, 1), 20);
        }
    }

    private static void placeToTheRight() {
        Check.sentence("f to the right of the one ahead, all together");
        PictureRing x = Scenes.ring(new int[] {0, 1}, new int[] {0, 2}, new int[] {0, 3}, new int[] {0, 4},
                new int[] {0, 5}, new int[] {0, 1});
        int[] right = {0, 1, 3, 6, 10, 15};
        PictureRing most = alike(6, 0, 5);
        for (int k = 0; k < 6; k++) {
            Check.due("place(" + k + ", 0)", x.place(k, 0), right[k]);
            Check.due("place(" + k + ", 0) by 5 each", most.place(k, 0), 5 * k);
        }
        PictureRing two = Scenes.ring(new int[] {0, 5}, new int[] {0, 1});
        Check.due("the other of two", two.place(1, 0), 5);
    }

    private static void placeByFollowers() {
        Check.sentence("the k-th behind it, from FOLLOWER to FOLLOWER");
        PictureRing x = Scenes.join(Scenes.blank(4), new int[] {0, 3, 1, 2},
                new int[][] {{1, 1}, {1, 2}, {-1, 3}, {-1, 4}});
        int[] right = {0, 3, 6, 1};
        int[] lower = {20, 22, 21, 21};
        for (int k = 0; k < 4; k++) {
            Check.due("0, 3, 1, 2: place(" + k + ", 0)", x.place(k, 0), right[k]);
            Check.due("0, 3, 1, 2: place(" + k + ", 1)", x.place(k, 1), lower[k]);
        }
        PictureRing y = Scenes.join(Scenes.blank(3), new int[] {1, 2, 0}, new int[][] {{1, 2}, {0, 3}, {0, 4}});
        Check.due("behind 0 comes 1", y.place(1, 0), 4);
        Check.due("then 2", y.place(2, 0), 6);
        Check.due("1 lies lower by none, less 1 by 3", y.place(1, 1), 20);
        Check.due("2 by 1, less 2 by 3", y.place(2, 1), 20);
    }

    private static void placeLowerRounded() {
        Check.sentence("higher by DRIFT times k by how many PICTURES, the nearest whole number (a half: the greater one)");
        // e of the LINKS from 0 on, and how much lower the PICTURES lie
        int[][][] cases = {
            {{1, 0}, {0, 0}}, {{0, 1}, {0, -1}}, {{-1, 0}, {0, -1}}, {{0, -1}, {0, 0}},
            {{1, 1}, {0, 0}}, {{-1, -1}, {0, 0}}, {{1, -1}, {0, 1}}, {{-1, 1}, {0, -1}},
            {{1, 0, 0}, {0, 1, 0}}, {{-1, 0, 0}, {0, -1, 0}}, {{1, 1, 0}, {0, 0, 1}}, {{0, -1, -1}, {0, 1, 0}},
            {{1, 1, 1}, {0, 0, 0}},
            {{1, 1, 0, 0}, {0, 0, 1, 0}}, {{-1, -1, 0, 0}, {0, -1, -1, -1}}, {{1, 0, 0, 0}, {0, 1, 0, 0}},
            {{-1, 0, 0, 0}, {0, -1, -1, 0}}, {{1, 1, 1, 0}, {0, 0, 0, 1}}, {{0, -1, -1, -1}, {0, 1, 0, 0}},
            {{0, 0, 0, 0, 1}, {0, 0, 0, -1, -1}}, {{0, 0, 0, 0, -1}, {0, 0, 0, 1, 1}},
            {{1, 1, 0, 0, 0}, {0, 1, 1, 1, 0}}, {{1, 1, 1, 0, 0}, {0, 0, 1, 1, 1}},
            {{1, 0, 0, 0, 0, 0}, {0, 1, 1, 0, 0, 0}}, {{-1, 0, 0, 0, 0, 0}, {0, -1, -1, -1, 0, 0}},
            {{1, 1, 1, 0, 0, 0}, {0, 0, 1, 1, 1, 0}}, {{-1, -1, -1, 0, 0, 0}, {0, -1, -1, -2, -1, -1}},
            {{1, 1, 1, 1, 1, 1}, {0, 0, 0, 0, 0, 0}}, {{-1, -1, -1, -1, -1, -1}, {0, 0, 0, 0, 0, 0}},
            {{1, 1, 1, -1, -1, -1}, {0, 1, 2, 3, 2, 1}}, {{-1, -1, -1, 1, 1, 1}, {0, -1, -2, -3, -2, -1}},
            {{1, 1, 1, 1, 1, 0}, {0, 0, 0, 0, 1, 1}}};
        for (int[][] n : cases) {
            int[][] shifts = new int[n[0].length][];
            for (int k = 0; k < shifts.length; k++) {
                shifts[k] = new int[] {n[0][k], 3};
            }
            PictureRing x = Scenes.ring(shifts);
            for (int k = 0; k < shifts.length; k++) {
                Check.due("e " + java.util.Arrays.toString(n[0]) + ": place(" + k + ", 1)", x.place(k, 1), 20 + n[1][k]);
            }
        }
    }

    private static void placeNotClosed() {
        Check.sentence("place: BAD; NO: THE CHAIN is not CLOSED.");
        PictureRing x = Scenes.row(new int[] {0, 2}, new int[] {0, 2});
        for (int k = 0; k < 3; k++) {
            Check.due("place(" + k + ", 0)", x.place(k, 0), NO);
            Check.due("place(" + k + ", 1)", x.place(k, 1), NO);
        }
        int[][] wrong = {{-1, 0}, {3, 0}, {0, -1}, {0, 2}, {LEAST, 0}, {MOST, 0}, {0, LEAST}, {0, MOST}};
        for (int[] n : wrong) {
            Check.due("open: place(" + n[0] + ", " + n[1] + ")", x.place(n[0], n[1]), BAD);
        }
        Check.due("told(1)", x.told(1), 6);
        Check.due("told(0)", x.told(0), wrong.length);
        Check.due("one PICTURE", Scenes.blank(1).place(0, 0), NO);
        PictureRing y = alike(2, 0, 2);
        for (int[] n : wrong) {
            Check.due("CLOSED: place(" + n[0] + ", " + n[1] + ")", y.place(n[0], n[1]), BAD);
        }
        Check.due("CLOSED: place(2, 0)", y.place(2, 0), BAD);
        Check.due("CLOSED: told(0)", y.told(0), wrong.length + 1);
        Check.due("CLOSED: told(1)", y.told(1), 0);
    }
}
