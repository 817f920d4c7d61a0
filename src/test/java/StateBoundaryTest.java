import java.util.ArrayList;
import java.util.List;
import java.util.function.Supplier;
import java.util.function.ToLongFunction;

/** The boundary cases of promises 26 to 28, of STATES and of refused calls; and of 512 calls. */
public final class StateBoundaryTest {
    private static final int NONE = PictureRing.NONE, BAD = PictureRing.BAD;
    private static final int NO = PictureRing.NO, FULL = PictureRing.FULL;
    private static final int LEAST = Integer.MIN_VALUE, MOST = Integer.MAX_VALUE;

    private StateBoundaryTest() { }

    public static void main(String[] args) {
        backNone();
        backFiveAtMost();
        backAndForth();
        backBehindRefused();
        stateByEachCallToldS();
        stateByNoOtherCall();
        stateByNoRefusedCall();
        backToEachPart();
        backLeavesTheRest();
        answersFollowChanges();
        toldNumbers();
        toldCounts();
        toldLeastAndMost();
        digestOfAll();
        digestTellsEach();
        refusedInNewObject();
        refusedInRow();
        refusedInFullRing();
        refusedInFullText();
        firstOfBadNoFull();
        questionsChangeNothing();
        hugeNumbers();
        fiveHundredAndTwelve();
        Check.end();
    }

    // ---- promise 26

    private static void backNone() {
        Check.sentence("back: NO: none.");
        PictureRing x = new PictureRing();
        Check.due("back()", x.back(), NO);
        Check.due("back() again", x.back(), NO);
        Check.due("told(1)", x.told(1), 2);
        Check.due("told(0)", x.told(0), 0);
        x.sets(0, 5);
        Check.due("one", x.back(), 0);
        Check.due("none again", x.back(), NO);
        Check.due("T", x.told(6), 8);
        Check.due("told(1)", x.told(1), 3);
    }

    private static void backFiveAtMost() {
        Check.sentence("5 at most, older ones lost: how many can be yet");
        for (int n = 1; n <= 12; n++) {
            PictureRing x = new PictureRing();
            for (int t = 1; t <= n; t++) {
                x.sets(0, 50 + t);
                Check.due("STATES behind " + t, x.told(8), Math.min(5, t));
            }
            for (int left = Math.min(5, n) - 1; left >= 0; left--) {
                Check.due(n + " calls: back()", x.back(), left);
                int t = n - (Math.min(5, n) - left);
                Check.due(n + " calls, " + left + " left: T", x.told(6), t == 0 ? 8 : 50 + t);
                Check.due("STATES", x.told(8), left);
            }
            Check.due(n + " calls: none left", x.back(), NO);
        }
    }

    private static void backAndForth() {
        Check.sentence("A STATE back (and new ones behind it)");
        PictureRing x = new PictureRing();
        for (int t = 1; t <= 5; t++) {
            x.sets(0, 50 + t);
        }
        Check.due("back()", x.back(), 4);
        Check.due("back()", x.back(), 3);
        Check.due("T", x.told(6), 53);
        Check.due("sets(0, 60)", x.sets(0, 60), 53);
        Check.due("STATES", x.told(8), 4);
        x.sets(0, 61);
        x.sets(0, 62);
        Check.due("STATES", x.told(8), 5);
        int[] before = {61, 60, 53, 52, 51};
        for (int n = 0; n < 5; n++) {
            Check.due("back()", x.back(), 4 - n);
            Check.due("T", x.told(6), before[n]);
        }
        Check.due("back()", x.back(), NO);
    }

    private static void backBehindRefused() {
        Check.sentence("Refused, changing nothing but how often: STATES stay, too");
        for (int n = 1; n <= 8; n++) {
            PictureRing x = new PictureRing();
            for (int t = 1; t <= n; t++) {
                x.sets(0, 50 + t);
            }
            x.sets(0, 0);
            x.world(0, 11);
            x.drops(0);
            Scenes.readsOf(x, "t1;t0;");
            Scenes.readsOf(x, "t");
            for (int left = Math.min(5, n) - 1; left >= 0; left--) {
                Check.due(n + " calls: back()", x.back(), left);
                int t = n - (Math.min(5, n) - left);
                Check.due(n + " calls, " + left + " left: T", x.told(6), t == 0 ? 8 : 50 + t);
                x.sets(1, 64);
            }
        }
    }

    private static void stateByEachCallToldS() {
        Check.sentence("each call told S, if it is not refused, leaves one, also if nothing changes by it");
        PictureRing x = new PictureRing();
        x.world(0, 12);
        x.shot(0, 0, 0);
        List<ToLongFunction<PictureRing>> calls = new ArrayList<>();
        calls.add(o -> o.world(0, 12));
        calls.add(o -> o.dots(1, 0, 28));
        calls.add(o -> o.paint(0, 1, 0, 28));
        calls.add(o -> o.sets(0, 8));
        calls.add(o -> o.sets(1, 12));
        calls.add(o -> o.shot(0, 0, 0));
        calls.add(o -> o.drops(1));
        calls.add(o -> Scenes.readsOf(o, "t8;"));
        long[] before = {12, 28, 28, 8, 12, 1, 1, 1};
        for (int i = 0; i < before.length; i++) {
            PictureRing y = new PictureRing();
            y.world(0, 12);
            y.shot(0, 0, 0);
            if (i == 6) {
                y.shot(0, 0, 0);
                y.back();
                y.shot(0, 0, 0);
            }
            int states = y.told(8);
            Check.due("call " + i, calls.get(i).applyAsLong(y), before[i]);
            Check.due("STATES behind call " + i, y.told(8), states + 1);
            Check.due("back() behind call " + i, y.back(), states);
            Check.due("T", y.told(6), 8);
            Check.due("P", y.told(4), 12);
            Check.due("PICTURES", y.told(5), i == 6 ? 2 : 1);
        }
    }

    private static void stateByNoOtherCall() {
        Check.sentence("each call told S (and no other) leaves one");
        PictureRing x = ring();
        while (x.told(8) > 0) {
            x.back();
        }
        x.sets(0, 8);
        x.value(NONE, 0, 0);
        x.value(0, 0, 0);
        x.change(0, 1, 1);
        x.corners(0);
        x.votes(0, 1, 0, 1);
        x.link(0, 1, 0);
        x.chain(0, 0);
        x.all(0);
        x.place(0, 0);
        x.overlap(0, 0);
        x.seam(0, 0);
        x.level(0, 0);
        x.rest(0);
        x.shows(0, 0);
        x.seen(0, 0, 0);
        x.type(32);
        x.clear();
        x.why(0);
        x.told(0);
        x.digest();
        Check.due("STATES", x.told(8), 1);
        Check.due("back()", x.back(), 0);
        Check.due("none by a step back", x.told(8), 0);
    }

    private static void stateByNoRefusedCall() {
        Check.sentence("if it is not refused");
        PictureRing x = new PictureRing();
        x.world(0, 33);
        x.dots(0, 0, 0);
        x.shot(0, 0, 0);
        x.paint(0, 0, 0, 0);
        x.drops(0);
        x.sets(0, 0);
        x.sets(1, 64);
        x.sets(2, 5);
        Scenes.readsOf(x, "t0;");
        Scenes.readsOf(x, "t");
        Check.due("STATES", x.told(8), 0);
        x.world(0, 12);
        for (int k = 0; k < 6; k++) {
            x.shot(0, 0, k);
        }
        for (int n = 0; n < 7; n++) {
            x.shot(0, 0, 0);
        }
        Check.due("STATES", x.told(8), 5);
        Check.due("back()", x.back(), 4);
        Check.due("the sixth is taken back", x.told(5), 5);
    }

    private static void backToEachPart() {
        Check.sentence("to go back to (THE WORLD, PICTURES, T, A)");
        List<ToLongFunction<PictureRing>> calls = new ArrayList<>();
        calls.add(o -> o.world(5, 13));
        calls.add(o -> o.world(5, 12));
        calls.add(o -> o.world(5, 32));
        calls.add(o -> o.dots(0, 0, 63));
        calls.add(o -> o.dots(5, 11, 63));
        calls.add(o -> o.shot(11, 2, 20));
        calls.add(o -> o.paint(0, 0, 0, 63));
        calls.add(o -> o.paint(2, 3, 7, 63));
        calls.add(o -> o.drops(0));
        calls.add(o -> o.drops(1));
        calls.add(o -> o.drops(2));
        calls.add(o -> o.sets(0, 126));
        calls.add(o -> o.sets(1, 63));
        calls.add(o -> Scenes.readsOf(o, "w5 13;s12 1 9;x0;x0;t5;a5;p0 0 0 63;c0 0 63;"));
        for (int i = 0; i < calls.size(); i++) {
            PictureRing x = ring();
            calls.get(i).applyAsLong(x);
            Check.due("call " + i + ": back()", x.back(), 4);
            x.clear();
            long[] got = Scenes.seenOf(x);
            long[] want = Scenes.seenOf(ring());
            // of five STATES one is lost, one gone back to
            got[5] = want[5];
            Check.same("call " + i + " taken back", got, want);
        }
        PictureRing z = Scenes.blankAt(12, new int[][] {{0, 0}, {10, 0}, {2, 0}});
        Scenes.mark(z, 1, 2, 0, 4, 40);
        Check.due("RIGHT", z.all(4), 1);
        z.drops(0);
        z.drops(0);
        z.shot(0, 0, 0);
        z.back();
        z.back();
        z.back();
        Check.due("RIGHT again, x, y, P are back", z.all(4), 1);
    }

    /** A RIGHT ring of three; 83 calls. */
    private static PictureRing ring() {
        return Scenes.join(Scenes.blankAt(12, new int[][] {{0, 0}, {4, 0}, {8, 0}}), Scenes.counting(3),
                new int[][] {{0, 4}, {0, 4}, {0, 4}});
    }

    private static void backLeavesTheRest() {
        Check.sentence("(THE WORLD, PICTURES, T, A): THE TEXT, CAUSE and how often stay");
        PictureRing x = new PictureRing();
        Scenes.readsOf(x, "t9;t0;");
        x.sets(0, 0);
        x.sets(0, 30);
        x.type('t');
        x.value(0, 0, 0);
        Check.due("back()", x.back(), 0);
        Check.due("T", x.told(6), 8);
        Check.due("bytes", x.told(3), 7);
        Check.due("told(0)", x.told(0), 2);
        Check.due("KIND", x.why(0), 2);
        Check.due("ORDER", x.why(1), 1);
    }

    private static void answersFollowChanges() {
        Check.sentence("each call told S leaves a STATE to go back to: what is asked before, behind it, and behind back");
        List<Supplier<PictureRing>> scenes = new ArrayList<>();
        scenes.add(StateBoundaryTest::ring);
        scenes.add(StateBoundaryTest::row);
        scenes.add(StateBoundaryTest::fullRing);
        scenes.add(() -> Scenes.ring(new int[] {1, 1}, new int[] {0, 5}));
        scenes.add(() -> Scenes.join(Scenes.blank(5), new int[] {0, 2, 1}, new int[][] {{-1, 4}, {-1, 3}, {0, 5}}));
        scenes.add(StateBoundaryTest::ringBehindFourth);
        List<ToLongFunction<PictureRing>> calls = new ArrayList<>();
        calls.add(o -> o.world(0, 32));
        calls.add(o -> o.dots(1, 1, 63));
        calls.add(o -> o.shot(0, 0, 20));
        calls.add(o -> o.paint(0, 1, 6, 0));
        calls.add(o -> o.paint(0, 2, 6, 0));
        calls.add(o -> o.paint(1, 0, 0, 5));
        calls.add(o -> o.paint(1, 1, 6, 0));
        calls.add(o -> o.drops(0));
        calls.add(o -> o.drops(1));
        calls.add(o -> o.drops(o.told(5) - 1));
        calls.add(o -> o.sets(0, 126));
        calls.add(o -> o.sets(0, 1));
        calls.add(o -> o.sets(0, 41));
        calls.add(o -> o.sets(1, 63));
        calls.add(o -> Scenes.readsOf(o, "x0;x0;"));
        calls.add(o -> Scenes.readsOf(o, "p0 1 6 0;p1 0 7 3;"));
        calls.add(o -> Scenes.readsOf(o, "x0;t0;"));
        PictureRing behind = ringBehindFourth();
        Check.due("FOLLOWER of the fourth", behind.chain(3, 0), 0);
        Check.due("its SEAM differs", behind.overlap(3, 2), 3);
        behind.drops(3);
        Check.due("a ring without it", behind.all(1), 1);
        for (int i = 0; i < scenes.size() * calls.size(); i++) {
            askedAgain("scene and call " + i, scenes.get(i % scenes.size()), calls.get(i / scenes.size()));
        }
    }

    /** Three that would be a ring, but a fourth has more VOTES for the first; all differ at their SEAMS. */
    private static PictureRing ringBehindFourth() {
        PictureRing x = Scenes.join(Scenes.blank(4), Scenes.counting(3), new int[][] {{0, 4}, {1, 4}, {1, 4}});
        Scenes.mark(x, 3, 0, 0, 5, 50);
        x.paint(3, 2, 6, 60);
        x.paint(0, 2, 1, 60);
        for (int k = 0; k < 4; k++) {
            for (int c = 3; c < 8; c++) {
                x.paint(k, 3, c, 3);
            }
        }
        return x;
    }

    private static void askedAgain(String of, Supplier<PictureRing> scene, ToLongFunction<PictureRing> call) {
        PictureRing x = scene.get();
        PictureRing fresh = scene.get();
        long[] before = Scenes.derivedOf(x);
        long answer = call.applyAsLong(x);
        Check.due(of, call.applyAsLong(fresh), answer);
        Check.same(of + ", asked behind it", Scenes.derivedOf(x), Scenes.derivedOf(fresh));
        if (answer >= 0) {
            x.back();
        }
        Check.same(of + ", asked behind back", Scenes.derivedOf(x), before);
    }

    // ---- promise 27

    private static void toldNumbers() {
        Check.sentence("told: BAD.");
        PictureRing x = new PictureRing();
        for (int what : new int[] {-1, 9, LEAST, MOST}) {
            Check.due("told(" + what + ")", x.told(what), BAD);
        }
        Check.due("they count", x.told(0), 4);
        Check.due("told(8)", x.told(8), 0);
    }

    private static void toldCounts() {
        Check.sentence("How often refused: BAD (0), NO (1), FULL (2)");
        PictureRing x = new PictureRing();
        counts("at first", x, 0, 0, 0);
        x.back();
        counts("NO", x, 0, 1, 0);
        x.level(0, 0);
        counts("-999999 is BAD", x, 1, 1, 0);
        x.why(2);
        counts("-10 is BAD", x, 2, 1, 0);
        x.rest(2);
        counts("BAD of a long", x, 3, 1, 0);
        x.reads();
        counts("a FAULT", x, 3, 1, 0);
        Scenes.readsOf(x, "t0;");
        counts("an ORDER", x, 3, 1, 0);
        x.world(0, 12);
        for (int k = 0; k < 7; k++) {
            x.shot(0, 0, 0);
        }
        counts("FULL of PICTURES", x, 3, 1, 1);
        for (int n = x.told(3); n <= 120; n++) {
            x.type(32);
        }
        counts("FULL of THE TEXT", x, 3, 1, 2);
        PictureRing y = Scenes.blank(1);
        for (int n = 0; n < 100; n++) {
            y.told(9);
            y.place(0, 0);
        }
        counts("a hundred each", y, 100, 100, 0);
    }

    private static void counts(String of, PictureRing x, int bad, int no, int full) {
        Check.due(of + ": told(0)", x.told(0), bad);
        Check.due(of + ": told(1)", x.told(1), no);
        Check.due(of + ": told(2)", x.told(2), full);
    }

    private static void toldLeastAndMost() {
        Check.sentence("bytes of THE TEXT (3), P (4; 0: no WORLD), PICTURES (5), T (6), A (7), STATES (8)");
        PictureRing x = new PictureRing();
        for (int n = 0; n < 120; n++) {
            x.type(0);
        }
        x.world(0, 32);
        for (int k = 0; k < 6; k++) {
            x.shot(31, 2, 20);
        }
        x.sets(0, 126);
        x.sets(1, 63);
        int[] most = {0, 0, 0, 120, 32, 6, 126, 63, 5};
        for (int what = 0; what < most.length; what++) {
            Check.due("told(" + what + "), everything full", x.told(what), most[what]);
        }
        for (int n = 0; n < 5; n++) {
            x.back();
        }
        x.sets(0, 1);
        x.sets(1, 0);
        x.clear();
        int[] least = {0, 0, 0, 0, 32, 3, 1, 0, 2};
        for (int what = 0; what < least.length; what++) {
            Check.due("told(" + what + "), taken back", x.told(what), least[what]);
        }
    }

    // ---- promise 28

    private static long digestBy(PictureRing x) {
        long h = 2269;
        for (int what = 0; what <= 8; what++) {
            h = 31 * h + x.told(what);
        }
        h = 31 * h + x.why(0);
        h = 31 * h + x.why(1);
        int pictures = x.told(5);
        for (int k = 0; k < pictures; k++) {
            for (int n = 0; n < 32; n++) {
                h = 31 * h + x.value(k, n / 8, n % 8);
            }
            h = 31 * h + x.corners(k);
            h = 31 * h + x.chain(k, 0);
        }
        for (int what = 0; what <= 5; what++) {
            h = 31 * h + x.all(what);
        }
        return h;
    }

    private static void digestOfAll() {
        Check.sentence("h = 2269; then h = 31 h + v for each v");
        for (int n = 0; n <= 6; n++) {
            PictureRing x = Scenes.blank(n);
            Check.due(n + " blank PICTURES", x.digest(), digestBy(x));
        }
        Check.due("a ring", ring().digest(), digestBy(ring()));
        Check.due("an open row", row().digest(), digestBy(row()));
        Check.due("six in a ring", fullRing().digest(), digestBy(fullRing()));
        PictureRing x = fullRing();
        x.shot(0, 0, 0);
        x.place(6, 0);
        Scenes.readsOf(x, "t5;t0;");
        long want = digestBy(x);
        Check.due("refused ones counted", x.digest(), want);
        Check.due("asked again", x.digest(), want);
    }

    private static void digestTellsEach() {
        Check.sentence("for each v: told(0) to told(8); why(0), why(1); of each PICTURE its VALUES");
        List<ToLongFunction<PictureRing>> calls = new ArrayList<>();
        calls.add(o -> o.told(9));
        calls.add(o -> o.place(2, 0));
        calls.add(o -> o.type(32));
        calls.add(o -> o.world(0, 13));
        calls.add(o -> o.sets(0, 9));
        calls.add(o -> o.sets(1, 9));
        calls.add(o -> o.back());
        calls.add(o -> Scenes.readsOf(o, "t0;"));
        calls.add(o -> o.paint(0, 0, 0, 1));
        calls.add(o -> o.paint(2, 3, 7, 1));
        calls.add(o -> o.shot(0, 0, 0));
        calls.add(o -> o.drops(2));
        for (int i = 0; i < calls.size(); i++) {
            PictureRing x = row();
            long before = x.digest();
            calls.get(i).applyAsLong(x);
            Check.due("call " + i + " is told", x.digest() != before ? 1 : 0, 1);
            Check.due("call " + i, x.digest(), digestBy(x));
        }
    }

    // ---- refused calls

    /** Three in a row, not CLOSED; 81 calls. */
    private static PictureRing row() {
        return Scenes.row(new int[] {0, 4}, new int[] {1, 3});
    }

    /** Six in a ring; 92 calls. */
    private static PictureRing fullRing() {
        return Scenes.join(Scenes.blank(6), Scenes.counting(6),
                new int[][] {{0, 2}, {1, 2}, {0, 3}, {-1, 4}, {0, 5}, {0, 1}});
    }

    /** A row of three and a TEXT of 120 bytes; 201 calls. */
    private static PictureRing fullText() {
        PictureRing x = row();
        for (int n = 0; n < 120; n++) {
            x.type(32);
        }
        return x;
    }

    /** A call that an object refuses, and by which of BAD, NO, FULL. */
    private record Refused(String name, int kind, long answer, ToLongFunction<PictureRing> call) { }

    private static void add(List<Refused> all, String name, ToLongFunction<PictureRing> call) {
        all.add(new Refused(name, BAD, BAD, call));
    }

    /** Refused as BAD by each object of so many PICTURES and P 12 (or none). */
    private static List<Refused> badOf(int n) {
        List<Refused> all = new ArrayList<>();
        for (int k : new int[] {-1, n, n + 1, LEAST, MOST}) {
            add(all, "paint", o -> o.paint(k, 0, 0, 0));
            add(all, "drops", o -> o.drops(k));
            add(all, "change", o -> o.change(k, 1, 1));
            add(all, "corners", o -> o.corners(k));
            add(all, "votes of", o -> o.votes(k, 0, 0, 1));
            add(all, "votes for", o -> o.votes(0, k, 0, 1));
            add(all, "link from", o -> o.link(k, 0, 0));
            add(all, "link to", o -> o.link(0, k, 0));
            add(all, "chain", o -> o.chain(k, 0));
            add(all, "place", o -> o.place(k, 0));
            add(all, "overlap", o -> o.overlap(k, 0));
            add(all, "seam", o -> o.seam(k, 0));
            add(all, "shows", o -> o.shows(k, 0));
            add(all, "seen", o -> o.seen(k, 0, 0));
            all.add(new Refused("level", BAD, -999999, o -> o.level(k, 0)));
        }
        for (int v : new int[] {-2, 7, 13, 128, LEAST, MOST}) {
            add(all, "world", o -> o.world(0, v == 13 ? 33 : v));
            add(all, "shot x", o -> o.shot(v < 12 ? -1 : v, 0, 0));
            add(all, "shot y", o -> o.shot(0, v, 0));
            add(all, "sets", o -> o.sets(v, 5));
            add(all, "all", o -> o.all(v));
            add(all, "rest", o -> o.rest(v));
            add(all, "told", o -> o.told(v == 7 ? 9 : v));
            add(all, "type", o -> o.type(v == 7 || v == 13 ? -1 : v));
            all.add(new Refused("why", BAD, -10, o -> o.why(v)));
        }
        add(all, "dots", o -> o.dots(0, 12, 0));
        add(all, "value of THE WORLD", o -> o.value(NONE, 0, 12));
        return all;
    }

    private static void changesNothing(String of, Supplier<PictureRing> scene, List<Refused> calls) {
        long[] before = Scenes.seenOf(scene.get());
        for (Refused r : calls) {
            PictureRing x = scene.get();
            int[] often = {x.told(0), x.told(1), x.told(2)};
            Check.due(of + ": " + r.name, r.call.applyAsLong(x), r.answer);
            often[BAD - r.kind]++;
            counts(of + ": " + r.name, x, often[0], often[1], often[2]);
            Check.same(of + ": " + r.name + ", nothing changed", Scenes.seenOf(x), before);
        }
    }

    private static void refusedInNewObject() {
        Check.sentence("Refused (a question, too), changing nothing but how often");
        List<Refused> calls = badOf(0);
        calls.add(new Refused("back", NO, NO, o -> o.back()));
        changesNothing("a new object", PictureRing::new, calls);
    }

    private static void refusedInRow() {
        Check.sentence("Refused (a question, too), changing nothing but how often");
        List<Refused> calls = badOf(3);
        for (int k = 0; k < 3; k++) {
            int of = k;
            calls.add(new Refused("place", NO, NO, o -> o.place(of, 1)));
        }
        calls.add(new Refused("overlap", NO, NO, o -> o.overlap(2, 3)));
        calls.add(new Refused("seam", NO, NO, o -> o.seam(2, 3)));
        changesNothing("a row of three", StateBoundaryTest::row, calls);
    }

    private static void refusedInFullRing() {
        Check.sentence("Refused (a question, too), changing nothing but how often");
        List<Refused> calls = badOf(6);
        calls.add(new Refused("shot", FULL, FULL, o -> o.shot(11, 2, -20)));
        changesNothing("six PICTURES", StateBoundaryTest::fullRing, calls);
    }

    private static void refusedInFullText() {
        Check.sentence("Refused (a question, too), changing nothing but how often");
        List<Refused> calls = new ArrayList<>();
        calls.add(new Refused("type", FULL, FULL, o -> o.type(127)));
        calls.add(new Refused("type", FULL, FULL, o -> o.type(0)));
        calls.add(new Refused("type", BAD, BAD, o -> o.type(128)));
        changesNothing("120 bytes", StateBoundaryTest::fullText, calls);
    }

    private static void firstOfBadNoFull() {
        Check.sentence("the first of: BAD -2 a number is not as told; NO -3 as told; FULL -4 as told");
        PictureRing x = row();
        int[][] wrong = {{3, 0}, {-1, 0}, {0, 4}, {0, -1}};
        for (int[] n : wrong) {
            Check.due("place", x.place(n[0], n[1]), BAD);
            Check.due("overlap", x.overlap(n[0], n[1]), BAD);
            Check.due("seam", x.seam(n[0], n[1]), BAD);
        }
        Check.due("overlap of one without a FOLLOWER, what 4", x.overlap(2, 4), BAD);
        Check.due("seam of one without a FOLLOWER, ROW 4", x.seam(2, 4), BAD);
        Check.due("told(1)", x.told(1), 0);
        PictureRing y = fullRing();
        Check.due("shot, x", y.shot(12, 0, 0), BAD);
        Check.due("shot, y", y.shot(0, 3, 0), BAD);
        Check.due("shot, d", y.shot(0, 0, 21), BAD);
        Check.due("told(2)", y.told(2), 0);
        PictureRing z = fullText();
        Check.due("type", z.type(128), BAD);
        Check.due("told(2)", z.told(2), 0);
    }

    private static void questionsChangeNothing() {
        Check.sentence("Nothing is promised beyond the answers and state changes described");
        PictureRing x = fullRing();
        long[] before = Scenes.seenOf(fullRing());
        for (int k = 0; k < 6; k++) {
            x.place(k, 1);
            x.overlap(k, 2);
            x.seam(k, 1);
            x.seen(k, 1, 1);
            x.change(k, 1, 1);
            x.votes(k, (k + 1) % 6, 0, 1);
            x.link(k, (k + 1) % 6, 2);
        }
        x.digest();
        Check.same("all questions", Scenes.seenOf(x), before);
    }

    private static void hugeNumbers() {
        Check.sentence("BAD: a number is not as told (how far ever)");
        int[] huge = {LEAST, LEAST + 1, -1000000, 1000000000, MOST - 1, MOST};
        for (int n : huge) {
            PictureRing x = ring();
            Check.due("votes e", x.votes(0, 1, n, 1), BAD);
            Check.due("votes f", x.votes(0, 1, 0, n), BAD);
            Check.due("link what", x.link(0, 1, n), BAD);
            Check.due("chain what", x.chain(0, n), BAD);
            Check.due("place what", x.place(0, n), BAD);
            Check.due("overlap what", x.overlap(0, n), BAD);
            Check.due("seam r", x.seam(0, n), BAD);
            Check.due("level what", x.level(0, n), -999999);
            Check.due("shows r", x.shows(0, n), BAD);
            Check.due("seen r", x.seen(0, n, 0), BAD);
            Check.due("seen c", x.seen(0, 0, n), BAD);
            Check.due("change r", x.change(0, n, 1), BAD);
            Check.due("change c", x.change(0, 1, n), BAD);
            Check.due("all at once", x.votes(n, n, n, n), BAD);
            Check.due("paint of them", x.paint(n, n, n, n), BAD);
            Check.due("shot of them", x.shot(n, n, n), BAD);
            Check.due("world of them", x.world(n, n), BAD);
            Check.due("dots of them", x.dots(n, n, n), BAD);
            Check.due("value of them", x.value(n, n, n), BAD);
            Check.due("told(0)", x.told(0), 19);
        }
    }

    private static void fiveHundredAndTwelve() {
        Check.sentence("An object is used for at most 512 calls after it has been made.");
        PictureRing x = new PictureRing();
        for (int n = 1; n <= 511; n++) {
            Check.due("call " + n, x.sets(0, 1 + n % 126), n == 1 ? 8 : 1 + (n - 1) % 126);
        }
        Check.due("call 512", x.back(), 4);
        PictureRing y = new PictureRing();
        for (int n = 1; n <= 511; n++) {
            y.drops(0);
        }
        Check.due("call 512", y.told(0), 511);
        PictureRing z = new PictureRing();
        z.world(0, 12);
        for (int n = 1; n <= 255; n++) {
            Check.due("a shot", z.shot(n % 12, n % 3, 0), 0);
            Check.due("and it goes", z.drops(0), 0);
        }
        Check.due("call 512", z.told(8), 5);
    }
}
