import java.math.BigInteger;
import java.util.ArrayList;
import java.util.Comparator;
import java.util.List;
import java.util.Random;
import java.util.regex.Matcher;
import java.util.regex.Pattern;

/**
 * Runs of drawn calls, each answer held against a second reading of the document that works by other
 * means: every SEAM tried, LEVELS by linear equations, THE TEXT by a regular expression.
 */
public final class OracleTest {
    private static final int RUNS = 300, CALLS = 512, MOST_TYPED = 250;

    private static int wrong = 0;

    public static void main(String[] args) {
        for (int run = 0; run < RUNS && wrong < 10; run++) {
            play(run);
        }
        System.out.println(wrong == 0 ? "all drawn runs agree" : wrong + " answers do not agree");
        if (wrong != 0) {
            System.exit(1);
        }
    }

    // ---- the runs

    private static void play(int run) {
        Random draw = new Random(run);
        PictureRing x = new PictureRing();
        Model m = new Model();
        List<String> calls = new ArrayList<>();
        while (calls.size() < CALLS) {
            if (!agree(draw, x, m, calls)) {
                wrong++;
                System.out.println("run " + run + ", call " + calls.size() + ": " + calls.get(calls.size() - 1));
                return;
            }
        }
    }

    private static boolean same(List<String> calls, String call, long got, long want) {
        calls.add(call + " answered " + got + ", the model " + want);
        return got == want;
    }

    private static int pick(Random draw, int least, int most) {
        if (draw.nextInt(25) == 0) {
            int[] odd = {least - 1, most + 1, Integer.MIN_VALUE, Integer.MAX_VALUE, -1, -2};
            return odd[draw.nextInt(odd.length)];
        }
        return least + draw.nextInt(Math.max(1, most - least + 1));
    }

    private static boolean agree(Random draw, PictureRing x, Model m, List<String> calls) {
        int way = draw.nextInt(60);
        if (way < 24) {
            return agreeOnChange(draw, x, m, calls, way);
        }
        int n = m.pictures.size();
        int k = pick(draw, 0, n - 1);
        int b = pick(draw, 0, n - 1);
        int r = pick(draw, 0, 3);
        int c = pick(draw, 0, 7);
        int what = pick(draw, 0, 2);
        switch (way % 18) {
            case 0: return same(calls, "change " + k + " " + r + " " + c, x.change(k, r, c), m.change(k, r, c));
            case 1: return same(calls, "corners " + k, x.corners(k), m.corners(k));
            case 2: case 3: {
                int e = pick(draw, -1, 1);
                int f = pick(draw, 1, 5);
                return same(calls, "votes " + k + " " + b + " " + e + " " + f, x.votes(k, b, e, f), m.votes(k, b, e, f));
            }
            case 4: return same(calls, "link " + k + " " + b + " " + what, x.link(k, b, what), m.link(k, b, what));
            case 5: return same(calls, "chain " + k + " " + what, x.chain(k, what), m.chain(k, what));
            case 6: what = pick(draw, 0, 5); return same(calls, "all " + what, x.all(what), m.all(what));
            case 7: what = pick(draw, 0, 1); return same(calls, "place " + k + " " + what, x.place(k, what), m.place(k, what));
            case 8: case 9: what = pick(draw, 0, 3); return same(calls, "overlap " + k + " " + what, x.overlap(k, what), m.overlap(k, what));
            case 10: return same(calls, "seam " + k + " " + r, x.seam(k, r), m.seam(k, r));
            case 11: case 12: what = pick(draw, 0, 1); return same(calls, "level " + k + " " + what, x.level(k, what), m.level(k, what));
            case 13: what = pick(draw, 0, 1); return same(calls, "rest " + what, x.rest(what), m.rest(what));
            case 14: return same(calls, "shows " + k + " " + r, x.shows(k, r), m.shows(k, r));
            case 15: return same(calls, "seen " + k + " " + r + " " + c, x.seen(k, r, c), m.seen(k, r, c));
            case 16: what = pick(draw, 0, 8); return same(calls, "told " + what, x.told(what), m.told(what));
            default: return same(calls, "digest", x.digest(), m.digest());
        }
    }

    private static boolean agreeOnChange(Random draw, PictureRing x, Model m, List<String> calls, int way) {
        int n = m.pictures.size();
        int k = pick(draw, 0, n - 1);
        switch (way) {
            case 0: {
                if (m.columns != 0 && draw.nextInt(3) != 0) {
                    return same(calls, "back", x.back(), m.back());
                }
                int seed = pick(draw, 0, 999999);
                int p = draw.nextInt(3) == 0 ? pick(draw, 12, 32) : pick(draw, 12, 14);
                return same(calls, "world " + seed + " " + p, x.world(seed, p), m.change(0, seed, p, 0, 0));
            }
            case 1: case 2: {
                int r = pick(draw, 0, 5);
                int c = pick(draw, 0, m.columns - 1);
                int v = pick(draw, 0, 63);
                return same(calls, "dots " + r + " " + c + " " + v, x.dots(r, c, v), m.change(1, r, c, v, 0));
            }
            case 3: case 4: case 5: case 6: case 7: case 8: {
                int s = pick(draw, 0, m.columns - 1);
                int y = pick(draw, 0, 2);
                int d = draw.nextBoolean() ? 0 : pick(draw, -20, 20);
                return same(calls, "shot " + s + " " + y + " " + d, x.shot(s, y, d), m.change(2, s, y, d, 0));
            }
            case 9: case 10: case 11: {
                int r = pick(draw, 0, 3);
                int c = pick(draw, 0, 7);
                int v = pick(draw, 0, 63);
                return same(calls, "paint " + k + " " + r + " " + c + " " + v, x.paint(k, r, c, v), m.change(3, k, r, c, v));
            }
            case 12: return same(calls, "drops " + k, x.drops(k), m.change(4, k, 0, 0, 0));
            case 13: {
                int v = draw.nextInt(3) == 0 ? pick(draw, 1, 126) : pick(draw, 1, 25);
                return same(calls, "sets 0 " + v, x.sets(0, v), m.change(5, 0, v, 0, 0));
            }
            case 14: {
                int what = pick(draw, 1, 1);
                int v = pick(draw, 0, 63);
                return same(calls, "sets " + what + " " + v, x.sets(what, v), m.change(5, what, v, 0, 0));
            }
            case 15: return same(calls, "back", x.back(), m.back());
            case 16: {
                int of = pick(draw, -1, n - 1);
                int r = pick(draw, 0, 5);
                int c = pick(draw, 0, 12);
                return same(calls, "value " + of + " " + r + " " + c, x.value(of, r, c), m.value(of, r, c));
            }
            case 17: {
                int what = pick(draw, 0, 1);
                return same(calls, "why " + what, x.why(what), m.why(what));
            }
            case 18: return same(calls, "clear", x.clear(), m.clear());
            case 19: {
                int c = draw.nextBoolean() ? pick(draw, 0, 127) : "ws;0 -x".charAt(draw.nextInt(7));
                return same(calls, "type " + c, x.type(c), m.type(c));
            }
            case 20: return same(calls, "reads", x.reads(), m.reads());
            default: return agreeOnText(draw, x, m, calls);
        }
    }

    private static boolean agreeOnText(Random draw, PictureRing x, Model m, List<String> calls) {
        if (draw.nextInt(4) != 0 || calls.size() + MOST_TYPED > CALLS) {
            return same(calls, "reads", x.reads(), m.reads());
        }
        if (!same(calls, "clear", x.clear(), m.clear())) {
            return false;
        }
        String text = drawText(draw, m);
        for (int i = 0; i < text.length(); i++) {
            if (!same(calls, "type " + (int) text.charAt(i), x.type(text.charAt(i)), m.type(text.charAt(i)))) {
                return false;
            }
        }
        return same(calls, "reads of '" + text + "'", x.reads(), m.reads());
    }

    private static String drawText(Random draw, Model m) {
        StringBuilder text = new StringBuilder();
        int orders = draw.nextInt(5);
        for (int i = 0; i <= orders; i++) {
            char letter = "wspctax".charAt(draw.nextInt(7));
            int[][] most = {{999999, 32}, {m.columns - 1, 2, 20}, {m.pictures.size() - 1, 3, 7, 63},
                {5, m.columns - 1, 63}, {126}, {63}, {m.pictures.size() - 1}};
            int[] numbers = most["wspctax".indexOf(letter)];
            text.append(gap(draw)).append(letter).append(gap(draw));
            for (int j = 0; j < numbers.length; j++) {
                boolean minus = letter == 's' && j == 2 && draw.nextBoolean();
                text.append(j > 0 && !minus ? " " : "").append(gap(draw)).append(minus ? "-" : "");
                int least = letter == 'w' && j == 1 ? 12 : letter == 't' ? 1 : 0;
                int number = least + draw.nextInt(Math.max(1, numbers[j] - least + 1));
                if (draw.nextInt(12) == 0) {
                    number = draw.nextInt(140);
                }
                text.append(draw.nextInt(9) == 0 ? "00" : "").append(number);
            }
            text.append(gap(draw)).append(';');
        }
        text.append(gap(draw));
        if (draw.nextInt(3) == 0) {
            int at = draw.nextInt(text.length());
            char odd = "w;x0 -7a9Z\t".charAt(draw.nextInt(11));
            switch (draw.nextInt(3)) {
                case 0: text.insert(at, odd); break;
                case 1: text.setCharAt(at, odd); break;
                default: text.deleteCharAt(at); break;
            }
        }
        return text.toString();
    }

    private static String gap(Random draw) {
        return draw.nextInt(6) == 0 ? " ".repeat(1 + draw.nextInt(2)) : "";
    }

    // ---- the model

    private record Picture(int[][] cells, int x, int y, int p) {
        Picture painted(int r, int c, int v) {
            int[][] copy = new int[4][];
            for (int i = 0; i < 4; i++) {
                copy[i] = cells[i].clone();
            }
            copy[r][c] = v;
            return new Picture(copy, x, y, p);
        }
    }

    private record State(int columns, int[][] world, List<Picture> pictures, int t, int a) { }

    private record Link(int a, int b, int votes, int e, int f) { }

    private record Fraction(BigInteger above, BigInteger below) {
        static final Fraction ZERO = of(0, 1);

        static Fraction of(long above, long below) {
            return cut(BigInteger.valueOf(above), BigInteger.valueOf(below));
        }

        static Fraction cut(BigInteger n, BigInteger d) {
            BigInteger g = n.gcd(d).multiply(BigInteger.valueOf(d.signum()));
            return new Fraction(n.divide(g), d.divide(g));
        }

        Fraction plus(Fraction o) {
            return cut(above.multiply(o.below).add(o.above.multiply(below)), below.multiply(o.below));
        }

        Fraction minus(Fraction o) {
            return plus(new Fraction(o.above.negate(), o.below));
        }

        Fraction times(Fraction o) {
            return cut(above.multiply(o.above), below.multiply(o.below));
        }

        Fraction by(Fraction o) {
            return cut(above.multiply(o.below), below.multiply(o.above));
        }

        int rounded() {
            BigInteger two = BigInteger.TWO;
            BigInteger[] parts = above.multiply(two).add(below).divideAndRemainder(below.multiply(two));
            return parts[0].intValue() - (parts[1].signum() < 0 ? 1 : 0);
        }
    }

    private static final class Model {
        static final Pattern ORDER = Pattern.compile(
                " *(?:w *N +N|s *N +N(?: +| *-)N|p *N +N +N +N|c *N +N +N|[tax] *N) *;".replace("N", "[0-9]{1,6}"));
        static final Pattern TEXT = Pattern.compile("(?:" + ORDER.pattern() + ")+ *");

        int columns = 0;
        int[][] world = new int[6][32];
        List<Picture> pictures = new ArrayList<>();
        int t = 8;
        int a = 12;
        final List<State> states = new ArrayList<>();
        final int[] refused = new int[3];
        final StringBuilder text = new StringBuilder();
        int kind = 0;
        int order = -1;

        int refuse(int why) {
            refused[-2 - why]++;
            return why;
        }

        State now() {
            int[][] copy = new int[6][];
            for (int r = 0; r < 6; r++) {
                copy[r] = world[r].clone();
            }
            return new State(columns, copy, new ArrayList<>(pictures), t, a);
        }

        void put(State s) {
            columns = s.columns;
            world = s.world;
            pictures = s.pictures;
            t = s.t;
            a = s.a;
        }

        void leave(State s) {
            states.add(s);
            if (states.size() > 5) {
                states.remove(0);
            }
        }

        int change(int kindOfCall, int i, int j, int k, int l) {
            State before = now();
            int answer = does(kindOfCall, i, j, k, l);
            if (answer < 0) {
                return refuse(answer);
            }
            leave(before);
            return answer;
        }

        int does(int kindOfCall, int i, int j, int k, int l) {
            switch (kindOfCall) {
                case 0: return doWorld(i, j);
                case 1: {
                    if (i < 0 || i > 5 || j < 0 || j >= columns || k < 0 || k > 63) {
                        return -2;
                    }
                    int was = world[i][j];
                    world[i][j] = k;
                    return was;
                }
                case 2: return doShot(i, j, k);
                case 3: {
                    if (!isCell(i, j, k) || l < 0 || l > 63) {
                        return -2;
                    }
                    int was = pictures.get(i).cells[j][k];
                    pictures.set(i, pictures.get(i).painted(j, k, l));
                    return was;
                }
                case 4:
                    if (!has(i)) {
                        return -2;
                    }
                    pictures.remove(i);
                    return pictures.size();
                default: {
                    if (i == 0 && j >= 1 && j <= 126) {
                        int was = t;
                        t = j;
                        return was;
                    }
                    if (i == 1 && j >= 0 && j <= 63) {
                        int was = a;
                        a = j;
                        return was;
                    }
                    return -2;
                }
            }
        }

        int doWorld(int seed, int p) {
            if (seed < 0 || seed > 999999 || p < 12 || p > 32) {
                return -2;
            }
            int was = columns;
            columns = p;
            BigInteger x = BigInteger.valueOf(seed);
            for (int n = 0; n < 6 * p; n++) {
                x = x.multiply(BigInteger.valueOf(1103515245)).add(BigInteger.valueOf(12345))
                        .mod(BigInteger.valueOf(2147483648L));
                world[n % 6][n / 6] = x.shiftRight(16).intValue() & 63;
            }
            return was;
        }

        int doShot(int x, int y, int d) {
            if (x < 0 || x >= columns || y < 0 || y > 2 || d < -20 || d > 20) {
                return -2;
            }
            if (pictures.size() == 6) {
                return -4;
            }
            int[][] cells = new int[4][8];
            for (int r = 0; r < 4; r++) {
                for (int c = 0; c < 8; c++) {
                    int v = world[y + r][(x + c) % columns] + d;
                    cells[r][c] = v < 0 ? 0 : v > 63 ? 63 : v;
                }
            }
            pictures.add(new Picture(cells, x, y, columns));
            return pictures.size() - 1;
        }

        boolean has(int k) {
            return k >= 0 && k < pictures.size();
        }

        boolean isCell(int k, int r, int c) {
            return has(k) && r >= 0 && r <= 3 && c >= 0 && c <= 7;
        }

        int at(int k, int r, int c) {
            return pictures.get(k).cells[r][c];
        }

        int value(int k, int r, int c) {
            if (k == -1) {
                return r < 0 || r > 5 || c < 0 || c >= columns ? refuse(-2) : world[r][c];
            }
            return isCell(k, r, c) ? at(k, r, c) : refuse(-2);
        }

        int change(int k, int r, int c) {
            return has(k) && isInner(r, c) ? changeAt(k, r, c) : refuse(-2);
        }

        static boolean isInner(int r, int c) {
            return (r == 1 || r == 2) && c > 0 && c < 7;
        }

        int changeAt(int k, int r, int c) {
            int least = Integer.MAX_VALUE;
            for (int down = -1; down <= 1; down++) {
                for (int aside = -1; aside <= 1; aside++) {
                    if (down != 0 || aside != 0) {
                        least = Math.min(least, Math.abs(at(k, r, c) - at(k, r + down, c + aside))
                                + Math.abs(at(k, r, c) - at(k, r - down, c - aside)));
                    }
                }
            }
            return least;
        }

        boolean isCorner(int k, int r, int c) {
            return isInner(r, c) && changeAt(k, r, c) >= t;
        }

        int corners(int k) {
            return has(k) ? cornersOf(k) : refuse(-2);
        }

        int cornersOf(int k) {
            int bits = 0;
            for (int n = 0; n < 12; n++) {
                bits += isCorner(k, 1 + n / 6, 1 + n % 6) ? 1 << n : 0;
            }
            return bits;
        }

        int votes(int i, int j, int e, int f) {
            if (!has(i) || !has(j) || i == j || e < -1 || e > 1 || f < 1 || f > 5) {
                return refuse(-2);
            }
            return votesOf(i, j, e, f);
        }

        int votesOf(int i, int j, int e, int f) {
            int votes = 0;
            for (int n = 0; n < 12; n++) {
                int r = 1 + n / 6;
                int c = 1 + n % 6;
                if (isCorner(i, r, c) && isCorner(j, r - e, c - f)
                        && Math.abs(at(i, r, c) - at(j, r - e, c - f)) <= a) {
                    votes++;
                }
            }
            return votes;
        }

        /** null: there is no LINK. */
        Link linkOf(int i, int j) {
            List<Link> shifts = new ArrayList<>();
            for (int e = -1; e <= 1; e++) {
                for (int f = 1; f <= 5; f++) {
                    int votes = votesOf(i, j, e, f);
                    if (votes > 0) {
                        shifts.add(new Link(i, j, votes, e, f));
                    }
                }
            }
            return shifts.stream().min(Comparator.<Link>comparingInt(l -> -l.votes)
                    .thenComparingInt(l -> Math.abs(l.e)).thenComparingInt(l -> l.f)
                    .thenComparingInt(l -> l.e)).orElse(null);
        }

        int link(int i, int j, int what) {
            if (!has(i) || !has(j) || i == j || what < 0 || what > 2) {
                return refuse(-2);
            }
            Link l = linkOf(i, j);
            if (l == null) {
                return what == 0 ? 0 : -1;
            }
            return what == 0 ? l.votes : what == 1 ? l.e + 1 : l.f;
        }

        /** Taken LINKS, at the PICTURE that each comes from. */
        Link[] taken() {
            List<Link> links = new ArrayList<>();
            int n = pictures.size();
            for (int i = 0; i < n; i++) {
                for (int j = 0; j < n; j++) {
                    Link l = i == j ? null : linkOf(i, j);
                    if (l != null) {
                        links.add(l);
                    }
                }
            }
            links.sort(Comparator.<Link>comparingInt(l -> -l.votes).thenComparingInt(l -> l.a)
                    .thenComparingInt(l -> l.b));
            Link[] taken = new Link[n];
            for (Link l : links) {
                boolean free = taken[l.a] == null;
                for (Link other : taken) {
                    free &= other == null || other.b != l.b;
                }
                List<Integer> way = new ArrayList<>();
                for (int k = l.b; k != -1 && free; k = taken[k] == null ? -1 : taken[k].b) {
                    way.add(k);
                }
                if (free && (!way.contains(l.a) || way.size() == n)) {
                    taken[l.a] = l;
                }
            }
            return taken;
        }

        static int ahead(Link[] taken, int k) {
            for (Link l : taken) {
                if (l != null && l.b == k) {
                    return l.a;
                }
            }
            return -1;
        }

        static boolean isClosed(Link[] taken) {
            for (Link l : taken) {
                if (l == null) {
                    return false;
                }
            }
            return taken.length >= 2;
        }

        int chain(int k, int what) {
            if (!has(k) || what < 0 || what > 1) {
                return refuse(-2);
            }
            Link[] taken = taken();
            return what == 1 ? ahead(taken, k) : taken[k] == null ? -1 : taken[k].b;
        }

        int all(int what) {
            return what < 0 || what > 5 ? refuse(-2) : allOf(what);
        }

        int allOf(int what) {
            Link[] taken = taken();
            int count = 0;
            int turn = 0;
            int drift = 0;
            int right = 0;
            for (Link l : taken) {
                if (l != null) {
                    count++;
                    turn += l.f;
                    drift += l.e;
                    Picture p = pictures.get(l.a);
                    Picture q = pictures.get(l.b);
                    right += p.p == q.p && (p.x + l.f - q.x) % p.p == 0 && p.y + l.e == q.y ? 1 : 0;
                }
            }
            int free = 0;
            for (int k = 0; k < taken.length; k++) {
                free += ahead(taken, k) == -1 ? 1 : 0;
            }
            return new int[] {count, isClosed(taken) ? 1 : 0, turn, drift + 6, right, free}[what];
        }

        int place(int k, int what) {
            if (!has(k) || what < 0 || what > 1) {
                return refuse(-2);
            }
            Link[] taken = taken();
            if (!isClosed(taken)) {
                return refuse(-3);
            }
            int at = 0;
            int f = 0;
            int e = 0;
            int steps = 0;
            while (at != k) {
                f += taken[at].f;
                e += taken[at].e;
                at = taken[at].b;
                steps++;
            }
            int drift = allOf(3) - 6;
            return what == 0 ? f : e - Fraction.of((long) drift * steps, taken.length).rounded() + 20;
        }

        List<int[]> cells(Link l) {
            List<int[]> cells = new ArrayList<>();
            for (int r = 0; r < 4; r++) {
                for (int c = l.f; c < 8; c++) {
                    if (r - l.e >= 0 && r - l.e <= 3) {
                        cells.add(new int[] {r, c, at(l.a, r, c) - at(l.b, r - l.e, c - l.f)});
                    }
                }
            }
            return cells;
        }

        /** For each ROW its COLUMN or -1; behind them, by how much VALUES differ there. */
        int[] seamOf(Link l) {
            int[] best = {-1, -1, -1, -1, Integer.MAX_VALUE};
            trySeams(l, Math.max(0, l.e), new int[] {-1, -1, -1, -1, 0}, best);
            return best;
        }

        void trySeams(Link l, int r, int[] soFar, int[] best) {
            if (r > 3 || r - l.e > 3) {
                if (soFar[4] < best[4]) {
                    System.arraycopy(soFar, 0, best, 0, 5);
                }
                return;
            }
            for (int c = l.f; c < 8; c++) {
                if (r == 0 || soFar[r - 1] == -1 || Math.abs(soFar[r - 1] - c) <= 1) {
                    int[] more = soFar.clone();
                    more[r] = c;
                    more[4] += Math.abs(at(l.a, r, c) - at(l.b, r - l.e, c - l.f));
                    trySeams(l, r + 1, more, best);
                }
            }
        }

        int overlap(int k, int what) {
            if (!has(k) || what < 0 || what > 3) {
                return refuse(-2);
            }
            Link l = taken()[k];
            if (l == null) {
                return refuse(-3);
            }
            int differ = 0;
            int less = 0;
            for (int[] cell : cells(l)) {
                differ += Math.abs(cell[2]);
                less += cell[2];
            }
            return new int[] {cells(l).size(), differ, seamOf(l)[4], less + 2000}[what];
        }

        int seam(int k, int r) {
            if (!has(k) || r < 0 || r > 3) {
                return refuse(-2);
            }
            Link l = taken()[k];
            return l == null ? refuse(-3) : seamOf(l)[r];
        }

        Fraction m(Link l) {
            int less = 0;
            for (int[] cell : cells(l)) {
                less += cell[2];
            }
            return Fraction.of(less, cells(l).size());
        }

        /** LEVELS, and REST behind them. */
        Fraction[] levels() {
            Link[] taken = taken();
            int n = taken.length;
            Fraction[] level = new Fraction[n + 1];
            level[n] = Fraction.ZERO;
            if (!isClosed(taken)) {
                for (int k = 0; k < n; k++) {
                    level[k] = Fraction.ZERO;
                    for (int at = k; ahead(taken, at) != -1; at = ahead(taken, at)) {
                        level[k] = level[k].plus(m(taken[ahead(taken, at)]));
                    }
                }
                return level;
            }
            solve(taken, level);
            for (Link l : taken) {
                Fraction off = m(l).plus(level[l.a]).minus(level[l.b]);
                level[n] = level[n].plus(off.times(off).times(Fraction.of(cells(l).size(), 1)));
            }
            return level;
        }

        /** The sum is least where it does not change by a step of any LEVEL: n less 1 linear equations. */
        void solve(Link[] taken, Fraction[] level) {
            int n = taken.length;
            Fraction[][] rows = new Fraction[n][n + 1];
            for (Fraction[] row : rows) {
                java.util.Arrays.fill(row, Fraction.ZERO);
            }
            for (Link l : taken) {
                Fraction size = Fraction.of(cells(l).size(), 1);
                Fraction sum = size.times(m(l));
                rows[l.a][l.a] = rows[l.a][l.a].plus(size);
                rows[l.b][l.b] = rows[l.b][l.b].plus(size);
                rows[l.a][l.b] = rows[l.a][l.b].minus(size);
                rows[l.b][l.a] = rows[l.b][l.a].minus(size);
                rows[l.a][n] = rows[l.a][n].minus(sum);
                rows[l.b][n] = rows[l.b][n].plus(sum);
            }
            for (int i = 1; i < n; i++) {
                for (int j = i + 1; j < n; j++) {
                    Fraction share = rows[j][i].by(rows[i][i]);
                    for (int c = 0; c <= n; c++) {
                        rows[j][c] = rows[j][c].minus(share.times(rows[i][c]));
                    }
                }
            }
            level[0] = Fraction.ZERO;
            for (int i = n - 1; i > 0; i--) {
                Fraction sum = rows[i][n];
                for (int j = i + 1; j < n; j++) {
                    sum = sum.minus(rows[i][j].times(level[j]));
                }
                level[i] = sum.by(rows[i][i]);
            }
        }

        long level(int k, int what) {
            if (!has(k) || what < 0 || what > 1) {
                refuse(-2);
                return -999999;
            }
            Fraction level = levels()[k];
            return (what == 0 ? level.above : level.below).longValueExact();
        }

        long rest(int what) {
            if (what < 0 || what > 1) {
                return refuse(-2);
            }
            Fraction rest = levels()[pictures.size()];
            return (what == 0 ? rest.above : rest.below).longValueExact();
        }

        int shows(int k, int r) {
            if (!has(k) || r < 0 || r > 3) {
                return refuse(-2);
            }
            Link[] taken = taken();
            int from = 0;
            int before = ahead(taken, k);
            if (before != -1) {
                Link l = taken[before];
                int row = r + l.e;
                if (row >= 0 && row <= 3 && seamOf(l)[row] != -1) {
                    from = seamOf(l)[row] - l.f;
                }
            }
            int bits = 0;
            for (int c = from; c < 8; c++) {
                if (taken[k] == null || seamOf(taken[k])[r] == -1 || c < seamOf(taken[k])[r]) {
                    bits |= 1 << c;
                }
            }
            return bits;
        }

        int seen(int k, int r, int c) {
            if (!isCell(k, r, c)) {
                return refuse(-2);
            }
            int v = levels()[k].plus(Fraction.of(at(k, r, c), 1)).rounded();
            return v < 0 ? 0 : v > 63 ? 63 : v;
        }

        int type(int c) {
            if (c < 0 || c > 127) {
                return refuse(-2);
            }
            if (text.length() == 120) {
                return refuse(-4);
            }
            return text.append((char) c).length();
        }

        int clear() {
            int had = text.length();
            text.setLength(0);
            return had;
        }

        int reads() {
            for (int n = 1; n <= text.length(); n++) {
                Matcher prefix = TEXT.matcher(text.substring(0, n));
                if (!prefix.matches() && !prefix.hitEnd()) {
                    return -10 - (n - 1);
                }
            }
            if (!TEXT.matcher(text).matches()) {
                return -10 - text.length();
            }
            State before = now();
            Matcher each = ORDER.matcher(text);
            int n = 0;
            while (each.find()) {
                int answer = doOrder(each.group().replace(" ;", ";"));
                if (answer < 0) {
                    put(before);
                    kind = -answer;
                    order = n;
                    return -1000 - n;
                }
                n++;
            }
            leave(before);
            return n;
        }

        int doOrder(String one) {
            char letter = one.trim().charAt(0);
            int[] numbers = new int[4];
            int count = 0;
            Matcher number = Pattern.compile("-?[0-9]+").matcher(one);
            while (number.find()) {
                numbers[count++] = Integer.parseInt(number.group());
            }
            switch (letter) {
                case 'w': return does(0, numbers[0], numbers[1], 0, 0);
                case 's': return does(2, numbers[0], numbers[1], numbers[2], 0);
                case 'p': return does(3, numbers[0], numbers[1], numbers[2], numbers[3]);
                case 'c': return does(1, numbers[0], numbers[1], numbers[2], 0);
                case 't': return does(5, 0, numbers[0], 0, 0);
                case 'a': return does(5, 1, numbers[0], 0, 0);
                default: return does(4, numbers[0], 0, 0, 0);
            }
        }

        int why(int what) {
            if (what < 0 || what > 1) {
                refuse(-2);
                return -10;
            }
            return what == 0 ? kind : order;
        }

        int back() {
            if (states.isEmpty()) {
                return refuse(-3);
            }
            put(states.remove(states.size() - 1));
            return states.size();
        }

        int told(int what) {
            return what < 0 || what > 8 ? refuse(-2) : toldOf(what);
        }

        int toldOf(int what) {
            return new int[] {refused[0], refused[1], refused[2], text.length(), columns,
                pictures.size(), t, a, states.size()}[what];
        }

        long digest() {
            List<Integer> all = new ArrayList<>();
            for (int what = 0; what <= 8; what++) {
                all.add(toldOf(what));
            }
            all.add(kind);
            all.add(order);
            Link[] taken = taken();
            for (int k = 0; k < pictures.size(); k++) {
                for (int n = 0; n < 32; n++) {
                    all.add(at(k, n / 8, n % 8));
                }
                all.add(cornersOf(k));
                all.add(taken[k] == null ? -1 : taken[k].b);
            }
            for (int what = 0; what <= 5; what++) {
                all.add(allOf(what));
            }
            long h = 2269;
            for (int v : all) {
                h = 31 * h + v;
            }
            return h;
        }
    }
}
