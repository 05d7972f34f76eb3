import java.math.BigInteger;
import java.util.ArrayDeque;
import java.util.ArrayList;
import java.util.Arrays;
import java.util.Comparator;
import java.util.Deque;
import java.util.List;
import java.util.Random;
import java.util.TreeMap;

/**
 * Random runs of calls, each answer held against a second program that follows the document word
 * by word: the whole system of equations in big fractions, determinants by their definition.
 */
public final class OreBlocksAgainstModel {
    private static final int RUNS = 1000;
    private static final int CALLS = 300;
    private static int wrong = 0;

    public static void main(String[] args) {
        TreeMap<String, Integer> seen = new TreeMap<>();
        for (int run = 0; run < RUNS && wrong < 20; run++) {
            new Run(run, seen).go();
        }
        String[] needed = {
            "no guess, some looked at", "unsound", "weight below 0", "spread below 0",
            "book right", "book wrong", "book long",
            "hole found", "no hole", "sample NOT", "sample FULL", "write FULL", "undo NOT", "undo done",
            "undo of 16", "goBack NOT", "goBack done", "drift met a sample", "drift when full",
            "quarter left one out", "reach left one out", "no left out guess", "no farthest error",
            "block, no guess, some looked at"
        };
        for (String what : needed) {
            if (!seen.containsKey(what)) {
                wrong++;
                System.out.println("the runs never came to: " + what);
            }
        }
        System.out.println(wrong == 0 ? "all random runs are as the model tells" : wrong + " wrong");
        if (wrong != 0) System.exit(1);
    }

    private record Sample(int x, int y, int g) { }

    private record Pieces(int nugget, int steep, int knot, int flat, int range) { }

    private record Search(int most, int quarter, int reach) { }

    /** Section 1, never changed but made anew. */
    private record Ground(List<Sample> samples, int metric, Pieces pieces, Search search) {
        int far(int x, int y, int u, int v) {
            int dx = Math.abs(x - u), dy = Math.abs(y - v);
            return metric == 0 ? dx + dy : Math.max(dx, dy);
        }

        int unlike(int h) {
            if (h == 0) return 0;
            int sum = pieces.nugget + pieces.steep * Math.min(h, pieces.knot);
            if (h > pieces.knot) sum += pieces.flat * (Math.min(h, pieces.range) - pieces.knot);
            return sum;
        }

        int unlike(Sample s, int x, int y) {
            return unlike(far(s.x, s.y, x, y));
        }
    }

    private record Image(Ground ground, int seed) { }

    private record Entry(int x, int y, int v) { }

    private record Guess(List<Sample> looked, Frac[] weights, Frac floor, Frac grade, Frac spread) { }

    private static final class Model {
        final TreeMap<String, Integer> seen;
        Ground ground = new Ground(List.of(), 0, new Pieces(0, 2, 5, 1, 12), new Search(4, 4, 62));
        long seed = 0;
        final Deque<Ground> deeds = new ArrayDeque<>();
        final List<Entry> book = new ArrayList<>();
        final Image[] images = new Image[2];

        Model(TreeMap<String, Integer> seen) {
            this.seen = seen;
        }

        void see(String what) {
            seen.merge(what, 1, Integer::sum);
        }

        static boolean out(int v, int least, int most) {
            return v < least || v > most;
        }

        static boolean noPlace(int x, int y) {
            return out(x, 0, 31) || out(y, 0, 31);
        }

        boolean noSample(int i) {
            return out(i, 0, ground.samples.size() - 1);
        }

        int sampleAt(int x, int y) {
            for (int i = 0; i < ground.samples.size(); i++) {
                Sample s = ground.samples.get(i);
                if (s.x == x && s.y == y) return i;
            }
            return -1;
        }

        static int quarter(Sample s, int x, int y) {
            boolean lessX = s.x < x, lessY = s.y < y;
            if (!lessX && !lessY) return 0;
            if (lessX && !lessY) return 1;
            if (lessX) return 2;
            return 3;
        }

        /** Numbers among the given samples. */
        List<Integer> lookedAt(List<Sample> samples, int x, int y) {
            List<Integer> order = new ArrayList<>();
            for (int i = 0; i < samples.size(); i++) {
                Sample s = samples.get(i);
                if (ground.far(s.x, s.y, x, y) <= ground.search.reach) order.add(i);
                else see("reach left one out");
            }
            order.sort(Comparator.comparingInt((Integer i) -> ground.far(samples.get(i).x, samples.get(i).y, x, y)).thenComparingInt(i -> i));
            List<Integer> taken = new ArrayList<>();
            int[] perQuarter = new int[4];
            for (int i : order) {
                int q = quarter(samples.get(i), x, y);
                if (taken.size() < ground.search.most && perQuarter[q] < ground.search.quarter) {
                    taken.add(i);
                    perQuarter[q]++;
                } else if (taken.size() < ground.search.most) see("quarter left one out");
            }
            return taken;
        }

        static List<Sample> pick(List<Sample> samples, List<Integer> numbers) {
            List<Sample> picked = new ArrayList<>();
            for (int i : numbers) picked.add(samples.get(i));
            return picked;
        }

        BigInteger determinant(long[][] t) {
            int n = t.length;
            if (n == 0) return BigInteger.ONE;
            BigInteger sum = BigInteger.ZERO;
            for (int c = 0; c < n; c++) {
                long[][] rest = new long[n - 1][n - 1];
                for (int i = 1; i < n; i++)
                    for (int j = 0, k = 0; j < n; j++)
                        if (j != c) rest[i - 1][k++] = t[i][j];
                BigInteger term = determinant(rest).multiply(BigInteger.valueOf(t[0][c]));
                sum = c % 2 == 0 ? sum.add(term) : sum.subtract(term);
            }
            return sum;
        }

        boolean sound(List<Sample> looked) {
            for (int k = 1; k <= looked.size(); k++) {
                long[][] t = new long[k + 1][k + 1];
                for (int i = 0; i < k; i++) {
                    for (int j = 0; j < k; j++) t[i][j] = ground.unlike(looked.get(i), looked.get(j).x, looked.get(j).y);
                    t[i][k] = 1;
                    t[k][i] = 1;
                }
                int sign = determinant(t).signum();
                if (sign != (k % 2 == 0 ? 1 : -1)) return false;
            }
            return true;
        }

        /** One row of numbers, or null. */
        static Frac[] solve(Frac[][] t) {
            int n = t.length;
            for (int c = 0; c < n; c++) {
                int pivot = -1;
                for (int r = c; r < n; r++) if (t[r][c].above().signum() != 0) pivot = r;
                if (pivot < 0) return null;
                Frac[] swap = t[c];
                t[c] = t[pivot];
                t[pivot] = swap;
                for (int r = 0; r < n; r++) {
                    if (r == c) continue;
                    Frac f = t[r][c].by(t[c][c]);
                    for (int k = c; k <= n; k++) t[r][k] = t[r][k].minus(f.times(t[c][k]));
                }
            }
            Frac[] row = new Frac[n];
            for (int i = 0; i < n; i++) row[i] = t[i][n].by(t[i][i]);
            return row;
        }

        /** The guess for all the places given, looked at from the first. */
        Guess guess(List<Sample> samples, int[][] places) {
            List<Sample> looked = pick(samples, lookedAt(samples, places[0][0], places[0][1]));
            int k = looked.size();
            if (k == 0) return null;
            Frac[] to = new Frac[k];
            Frac[][] t = new Frac[k + 1][k + 2];
            for (Frac[] row : t) Arrays.fill(row, Frac.ZERO);
            for (int i = 0; i < k; i++) {
                long sum = 0;
                for (int[] p : places) sum += ground.unlike(looked.get(i), p[0], p[1]);
                to[i] = Frac.of(sum).by(Frac.of(places.length));
                for (int j = 0; j < k; j++) t[i][j] = Frac.of(ground.unlike(looked.get(i), looked.get(j).x, looked.get(j).y));
                t[i][k] = Frac.ONE;
                t[k][i] = Frac.ONE;
                t[i][k + 1] = to[i];
            }
            t[k][k + 1] = Frac.ONE;
            Frac[] row = solve(t);
            if (row == null) return null;
            Frac grade = Frac.ZERO, spread = row[k];
            for (int i = 0; i < k; i++) {
                grade = grade.plus(row[i].times(Frac.of(looked.get(i).g)));
                spread = spread.plus(row[i].times(to[i]));
            }
            long within = 0;
            for (int[] p : places) for (int[] q : places) within += ground.unlike(ground.far(p[0], p[1], q[0], q[1]));
            spread = spread.minus(Frac.of(within).by(Frac.of((long) places.length * places.length)));
            return new Guess(looked, Arrays.copyOf(row, k), row[k], grade, spread);
        }

        Guess guess(int x, int y) {
            return guess(ground.samples, new int[][] {{x, y}});
        }

        Frac error(int i) {
            List<Sample> others = new ArrayList<>(ground.samples);
            Sample own = others.remove(i);
            Guess g = guess(others, new int[][] {{own.x, own.y}});
            return g == null ? null : g.grade.minus(Frac.of(own.g));
        }

        int told(int what) {
            switch (what) {
                case 0: return ground.samples.size();
                case 1: return ground.metric;
                case 2: return ground.pieces.nugget;
                case 3: return ground.pieces.steep;
                case 4: return ground.pieces.knot;
                case 5: return ground.pieces.flat;
                case 6: return ground.pieces.range;
                case 7: return ground.search.most;
                case 8: return ground.search.quarter;
                case 9: return ground.search.reach;
                case 10: return withoutGuess();
                case 11: return farthest();
                case 12: return book.size();
                case 13: return wrongEntry();
                case 14: return deeds.size();
                case 15: return (int) seed;
                default: return OreBlocks.OUTSIDE;
            }
        }

        int withoutGuess() {
            int n = 0;
            for (int i = 0; i < ground.samples.size(); i++) if (error(i) == null) n++;
            if (n > 0) see("no left out guess");
            return n;
        }

        int farthest() {
            int best = -1;
            Frac most = null;
            for (int i = 0; i < ground.samples.size(); i++) {
                Frac e = error(i);
                if (e == null) continue;
                if (most == null || e.abs().compare(most) > 0) {
                    most = e.abs();
                    best = i;
                }
            }
            if (best < 0) see("no farthest error");
            return best;
        }

        BigInteger bookValue(int x, int y) {
            Guess g = guess(x, y);
            return g == null ? BigInteger.ONE.negate() : g.grade.above().divide(g.grade.below());
        }

        int wrongEntry() {
            for (int i = 0; i < book.size(); i++) {
                Entry e = book.get(i);
                if (!bookValue(e.x, e.y).equals(BigInteger.valueOf(e.v))) {
                    see("book wrong");
                    return i;
                }
            }
            if (book.size() > 2) see("book right");
            if (book.size() > 10) see("book long");
            return -1;
        }

        int at(int i, int what) {
            if (noSample(i)) return OreBlocks.UNKNOWN;
            Sample s = ground.samples.get(i);
            return what == 0 ? s.x : what == 1 ? s.y : what == 2 ? s.g : OreBlocks.OUTSIDE;
        }

        int unlike(int h) {
            return out(h, 0, 62) ? OreBlocks.OUTSIDE : ground.unlike(h);
        }

        int place(int x, int y, int what) {
            if (noPlace(x, y) || out(what, 0, 5)) return OreBlocks.OUTSIDE;
            List<Integer> numbers = lookedAt(ground.samples, x, y);
            Guess g = guess(x, y);
            boolean sound = sound(pick(ground.samples, numbers));
            if (g == null && !numbers.isEmpty()) see("no guess, some looked at");
            if (!sound) see("unsound");
            switch (what) {
                case 0: return sampleAt(x, y);
                case 1: return numbers.size();
                case 2: {
                    int set = 0;
                    for (int i : numbers) set |= 1 << i;
                    return set;
                }
                case 3: return g == null ? 0 : 1;
                case 4: return sound ? 1 : 0;
                default: return below(g, numbers);
            }
        }

        int below(Guess g, List<Integer> numbers) {
            int set = 0;
            if (g == null) return 0;
            for (int i = 0; i < numbers.size(); i++) if (g.weights[i].above().signum() < 0) set |= 1 << numbers.get(i);
            if (set != 0) see("weight below 0");
            return set;
        }

        int looked(int x, int y, int i) {
            if (noPlace(x, y) || out(i, 0, 3)) return OreBlocks.OUTSIDE;
            List<Integer> numbers = lookedAt(ground.samples, x, y);
            return i < numbers.size() ? numbers.get(i) : -1;
        }

        long guess(int x, int y, int what) {
            if (noPlace(x, y) || out(what, 0, 5)) return OreBlocks.BEYOND;
            Guess g = guess(x, y);
            if (g == null) return OreBlocks.NOTHING;
            if (g.spread.above().signum() < 0) see("spread below 0");
            Frac f = what < 2 ? g.grade : what < 4 ? g.spread : g.floor;
            return f.part(what % 2);
        }

        long weight(int x, int y, int i, int what) {
            if (noPlace(x, y) || out(i, 0, 3) || out(what, 0, 1)) return OreBlocks.BEYOND;
            Guess g = guess(x, y);
            if (g == null || i >= g.weights.length) return OreBlocks.NOTHING;
            return g.weights[i].part(what);
        }

        long block(int x, int y, int what) {
            if (out(x, 0, 30) || out(y, 0, 30) || out(what, 0, 3)) return OreBlocks.BEYOND;
            Guess g = guess(ground.samples, new int[][] {{x, y}, {x + 1, y}, {x, y + 1}, {x + 1, y + 1}});
            if (g == null) {
                if (!lookedAt(ground.samples, x, y).isEmpty()) see("block, no guess, some looked at");
                return OreBlocks.NOTHING;
            }
            return (what < 2 ? g.grade : g.spread).part(what % 2);
        }

        long errorTold(int i, int what) {
            if (noSample(i)) return OreBlocks.NOBODY;
            if (out(what, 0, 1)) return OreBlocks.BEYOND;
            Frac e = error(i);
            return e == null ? OreBlocks.NOTHING : e.part(what);
        }

        int hole(int x, int y, int u, int v) {
            if (noPlace(x, y) || noPlace(u, v) || out(u, x, x + 7) || out(v, y, y + 7)) return OreBlocks.OUTSIDE;
            int best = -1;
            Frac most = null;
            for (int b = y; b <= v; b++) {
                for (int a = x; a <= u; a++) {
                    if (sampleAt(a, b) >= 0) continue;
                    Guess g = guess(a, b);
                    if (g == null) continue;
                    if (most == null || g.spread.compare(most) > 0) {
                        most = g.spread;
                        best = 100 * b + a;
                    }
                }
            }
            see(best < 0 ? "no hole" : "hole found");
            return best;
        }

        void deed(Ground next) {
            deeds.addLast(ground);
            if (deeds.size() > 16) deeds.removeFirst();
            ground = next;
        }

        Ground withSamples(List<Sample> samples) {
            return new Ground(List.copyOf(samples), ground.metric, ground.pieces, ground.search);
        }

        Ground withSample(Sample s) {
            List<Sample> more = new ArrayList<>(ground.samples);
            more.add(s);
            return withSamples(more);
        }

        int sample(int x, int y, int g) {
            if (noPlace(x, y) || out(g, 0, 999)) return OreBlocks.OUTSIDE;
            if (ground.samples.size() == 10) {
                see("sample FULL");
                return OreBlocks.FULL;
            }
            if (sampleAt(x, y) >= 0) {
                see("sample NOT");
                return OreBlocks.NOT;
            }
            deed(withSample(new Sample(x, y, g)));
            return ground.samples.size() - 1;
        }

        int take(int i) {
            if (noSample(i)) return OreBlocks.UNKNOWN;
            List<Sample> fewer = new ArrayList<>(ground.samples);
            fewer.remove(i);
            deed(withSamples(fewer));
            return fewer.size();
        }

        int grade(int i, int g) {
            if (noSample(i)) return OreBlocks.UNKNOWN;
            if (out(g, 0, 999)) return OreBlocks.OUTSIDE;
            List<Sample> other = new ArrayList<>(ground.samples);
            Sample was = other.get(i);
            other.set(i, new Sample(was.x, was.y, g));
            deed(withSamples(other));
            return was.g;
        }

        int pieces(int nugget, int steep, int knot, int flat, int range) {
            if (out(nugget, 0, 9) || out(steep, 1, 9) || out(knot, 1, 10) || out(flat, 0, steep) || out(range, knot, 20)) return OreBlocks.OUTSIDE;
            int was = ground.unlike(10);
            deed(new Ground(ground.samples, ground.metric, new Pieces(nugget, steep, knot, flat, range), ground.search));
            return was;
        }

        int search(int most, int quarter, int reach) {
            if (out(most, 1, 4) || out(quarter, 1, 4) || out(reach, 1, 62)) return OreBlocks.OUTSIDE;
            int was = ground.search.most;
            deed(new Ground(ground.samples, ground.metric, ground.pieces, new Search(most, quarter, reach)));
            return was;
        }

        int metric(int v) {
            if (out(v, 0, 1)) return OreBlocks.OUTSIDE;
            int was = ground.metric;
            deed(new Ground(ground.samples, v, ground.pieces, ground.search));
            return was;
        }

        int draw(int n) {
            seed = BigInteger.valueOf(seed).multiply(BigInteger.valueOf(1103515245)).add(BigInteger.valueOf(12345)).mod(BigInteger.TWO.pow(31)).longValueExact();
            return (int) (seed / 65536 % n);
        }

        int drift(int n) {
            if (out(n, 1, 10)) return OreBlocks.OUTSIDE;
            if (ground.samples.size() == 10) see("drift when full");
            for (int k = 0; k < n; k++) {
                if (ground.samples.size() == 10) break;
                int x = draw(32), y = draw(32), g = draw(1000);
                if (sampleAt(x, y) < 0) deed(withSample(new Sample(x, y, g)));
                else see("drift met a sample");
            }
            return ground.samples.size();
        }

        int undo(int n) {
            if (out(n, 1, 16)) return OreBlocks.OUTSIDE;
            if (n > deeds.size()) {
                see("undo NOT");
                return OreBlocks.NOT;
            }
            see(n == 16 ? "undo of 16" : "undo done");
            for (int k = 0; k < n; k++) ground = deeds.removeLast();
            return deeds.size();
        }

        int write(int x, int y, int v) {
            if (noPlace(x, y)) return OreBlocks.OUTSIDE;
            if (book.size() == 20) {
                see("write FULL");
                return OreBlocks.FULL;
            }
            book.add(new Entry(x, y, v));
            return book.size();
        }

        int tear() {
            int had = book.size();
            book.clear();
            return had;
        }

        int seedTo(int v) {
            if (v < 0) return OreBlocks.OUTSIDE;
            int was = (int) seed;
            seed = v;
            return was;
        }

        int keep(int i) {
            if (out(i, 0, 1)) return OreBlocks.UNKNOWN;
            images[i] = new Image(ground, (int) seed);
            deeds.clear();
            return 1;
        }

        int goBack(int i) {
            if (out(i, 0, 1)) return OreBlocks.UNKNOWN;
            if (images[i] == null) {
                see("goBack NOT");
                return OreBlocks.NOT;
            }
            see("goBack done");
            ground = images[i].ground;
            seed = images[i].seed;
            deeds.clear();
            return 1;
        }
    }

    private static final class Run {
        final int number;
        final Random random;
        final Model m;
        final OreBlocks o = new OreBlocks();
        final int corner, span;
        final StringBuilder calls = new StringBuilder();

        Run(int number, TreeMap<String, Integer> seen) {
            this.number = number;
            random = new Random(number);
            m = new Model(seen);
            // Close samples come to tables without a guess; far ones to all others.
            span = new int[] {32, 32, 8, 5, 4}[number % 5];
            corner = random.nextInt(33 - span);
        }

        void due(String name, long got, long want, int... a) {
            if (calls.length() < 40000) calls.append(name).append(Arrays.toString(a)).append(" = ").append(got).append('\n');
            if (got == want) return;
            wrong++;
            if (wrong == 1) System.out.println(calls);
            System.out.println("run " + number + ": " + name + Arrays.toString(a) + " answered " + got + ", due is " + want);
        }

        /** Mostly within the bounds, at times just out of them or far out. */
        int in(int least, int most) {
            int dice = random.nextInt(60);
            if (dice == 0) return least - 1;
            if (dice == 1) return most == Integer.MAX_VALUE ? -5 : most + 1;
            if (dice == 2 && random.nextInt(4) == 0) return random.nextBoolean() ? Integer.MIN_VALUE : Integer.MAX_VALUE;
            if (dice == 3) return least;
            if (dice == 4) return most;
            return least + (int) (random.nextDouble() * ((long) most - least + 1));
        }

        int coordinate() {
            return random.nextInt(12) == 0 ? in(0, 31) : corner + random.nextInt(span);
        }

        int number() {
            int n = m.ground.samples.size();
            return n == 0 ? in(0, 1) : in(0, n - 1);
        }

        void go() {
            for (int call = 0; call < CALLS; call++) {
                if (random.nextInt(3) == 0) deed();
                else look();
            }
        }

        void deed() {
            int x = coordinate(), y = coordinate();
            switch (random.nextInt(15)) {
                case 0: case 1: case 2: case 3: {
                    int g = in(0, 999);
                    due("sample", o.sample(x, y, g), m.sample(x, y, g), x, y, g);
                    break;
                }
                case 4: {
                    int i = number();
                    due("take", o.take(i), m.take(i), i);
                    break;
                }
                case 5: {
                    int i = number(), g = in(0, 999);
                    due("grade", o.grade(i, g), m.grade(i, g), i, g);
                    break;
                }
                case 6: changePieces(); break;
                case 7: {
                    int a = in(1, 4), b = in(1, 4), c = random.nextBoolean() ? in(1, 62) : in(1, span);
                    due("search", o.search(a, b, c), m.search(a, b, c), a, b, c);
                    break;
                }
                case 8: {
                    int v = in(0, 1);
                    due("metric", o.metric(v), m.metric(v), v);
                    break;
                }
                case 9: drift(); break;
                case 10: {
                    int n = random.nextInt(3) == 0 ? in(1, 16) : in(1, 3);
                    due("undo", o.undo(n), m.undo(n), n);
                    break;
                }
                case 11: case 12: writeEntry(x, y); break;
                case 13: {
                    if (random.nextInt(3) != 0) break;
                    int v = in(0, Integer.MAX_VALUE);
                    due("seed", o.seed(v), m.seedTo(v), v);
                    break;
                }
                default: image();
            }
        }

        void changePieces() {
            int steep = in(1, 9), knot = in(1, 10);
            int a = random.nextBoolean() ? 0 : in(0, 9);
            int flat = random.nextBoolean() ? in(0, Math.max(0, Math.min(9, steep))) : 0;
            int range = random.nextInt(3) == 0 ? 20 : in(Math.max(1, Math.min(10, knot)), 20);
            due("pieces", o.pieces(a, steep, knot, flat, range), m.pieces(a, steep, knot, flat, range), a, steep, knot, flat, range);
        }

        void drift() {
            int n = in(1, 10);
            if (random.nextInt(3) == 0 && m.ground.samples.size() > 1 && m.ground.samples.size() < 10) {
                // Two goes from one seed: the second meets what the first has drawn.
                int v = random.nextInt(Integer.MAX_VALUE);
                due("seed", o.seed(v), m.seedTo(v), v);
                due("drift", o.drift(1), m.drift(1), 1);
                due("seed", o.seed(v), m.seedTo(v), v);
            }
            due("drift", o.drift(n), m.drift(n), n);
        }

        void writeEntry(int x, int y) {
            if (random.nextInt(20) == 0) {
                due("tear", o.tear(), m.tear());
                if (random.nextBoolean()) writeWhatIsSo();
                return;
            }
            int v = random.nextInt(20) == 0 ? in(Integer.MIN_VALUE, Integer.MAX_VALUE) : Model.noPlace(x, y) ? 0 : m.bookValue(x, y).intValue();
            due("write", o.write(x, y, v), m.write(x, y, v), x, y, v);
        }

        /** Long books that are right, so that WRONG is looked for to the end. */
        void writeWhatIsSo() {
            for (int k = random.nextInt(20); k >= 0; k--) {
                int x = random.nextInt(32), y = random.nextInt(32), v = m.bookValue(x, y).intValue();
                due("write", o.write(x, y, v), m.write(x, y, v), x, y, v);
            }
            due("told", o.told(13), m.told(13), 13);
        }

        void image() {
            int i = in(0, 1);
            if (random.nextInt(3) == 0) due("keep", o.keep(i), m.keep(i), i);
            else due("goBack", o.goBack(i), m.goBack(i), i);
        }

        void look() {
            int x = coordinate(), y = coordinate();
            switch (random.nextInt(10)) {
                case 0: {
                    int what = in(0, 15);
                    due("told", o.told(what), m.told(what), what);
                    break;
                }
                case 1: {
                    int i = number(), what = in(0, 2);
                    due("at", o.at(i, what), m.at(i, what), i, what);
                    break;
                }
                case 2: {
                    int h = in(0, 62);
                    due("unlike", o.unlike(h), m.unlike(h), h);
                    break;
                }
                case 3: {
                    int what = in(0, 5);
                    due("place", o.place(x, y, what), m.place(x, y, what), x, y, what);
                    break;
                }
                case 4: {
                    int i = in(0, 3);
                    due("looked", o.looked(x, y, i), m.looked(x, y, i), x, y, i);
                    break;
                }
                case 5: {
                    int what = in(0, 5);
                    due("guess", o.guess(x, y, what), m.guess(x, y, what), x, y, what);
                    break;
                }
                case 6: {
                    int i = in(0, 3), what = in(0, 1);
                    due("weight", o.weight(x, y, i, what), m.weight(x, y, i, what), x, y, i, what);
                    break;
                }
                case 7: {
                    int what = in(0, 3);
                    due("block", o.block(x, y, what), m.block(x, y, what), x, y, what);
                    break;
                }
                case 8: {
                    int i = number(), what = in(0, 1);
                    due("error", o.error(i, what), m.errorTold(i, what), i, what);
                    break;
                }
                default: lookForHole(x, y);
            }
        }

        void lookForHole(int x, int y) {
            if (random.nextInt(3) == 0) return;
            int widest = random.nextInt(10) == 0 ? 8 : 2;
            int u = random.nextInt(10) == 0 ? in(0, 31) : x + in(0, widest);
            int v = random.nextInt(10) == 0 ? in(0, 31) : y + in(0, widest);
            due("hole", o.hole(x, y, u, v), m.hole(x, y, u, v), x, y, u, v);
        }
    }
}
