/**
 * Grades of ore guessed between drilled holes, in exact fractions.
 *
 * <p>The document (../shared/DOC.md) tells the promises; its words in capitals are the names used
 * here. Every array is made once, in the constructor: no call makes an object.
 */
public final class OreBlocks {
    public static final int NONE = -1, UNKNOWN = -1000000001, OUTSIDE = -1000000002, NOT = -1000000003, FULL = -1000000004;
    public static final long NOTHING = -4000000000000000000L, NOBODY = -4000000000000000001L, BEYOND = -4000000000000000002L;

    private static final int SIDE = 32;
    private static final int GRADES = 1000;
    private static final int MAX_SAMPLES = 10;
    private static final int MAX_LOOKED = 4;
    private static final int MAX_FAR = 2 * (SIDE - 1);
    private static final int MAX_STEP = 7;
    private static final int ONE_PLACE = 1;
    private static final int BLOCK_PLACES = 4;
    private static final int MAX_BOOK = 20;
    private static final int MAX_UNDO = 16;
    private static final int IMAGES = 2;
    /** 2 to the 31, less 1: what is left over by 2 to the 31 are these bits. */
    private static final int SEED_BITS = 2147483647;

    private final Ground ground;
    private final Estimate estimate;
    private final History history = new History();
    private final Book book = new Book();
    private final Image[] images = new Image[IMAGES];
    private int seed;

    public OreBlocks() {
        Ground bare = new Ground();
        ground = bare;
        estimate = new Estimate(bare);
        for (int i = 0; i < IMAGES; i++) {
            images[i] = new Image();
        }
    }

    // ---- what is so

    public int told(int what) {
        switch (what) {
            case 0: return ground.samples;
            case 1: return ground.metric;
            case 2: return ground.nugget;
            case 3: return ground.steep;
            case 4: return ground.knot;
            case 5: return ground.flat;
            case 6: return ground.range;
            case 7: return ground.most;
            case 8: return ground.inQuarter;
            case 9: return ground.reach;
            case 10: return countWithoutLeftOut();
            case 11: return farthestError();
            case 12: return book.entries;
            case 13: return firstWrong();
            case 14: return history.kept;
            case 15: return seed;
            default: return OUTSIDE;
        }
    }

    public int at(int i, int what) {
        if (!isSample(i)) {
            return UNKNOWN;
        }
        switch (what) {
            case 0: return ground.xs[i];
            case 1: return ground.ys[i];
            case 2: return ground.grades[i];
            default: return OUTSIDE;
        }
    }

    public int unlike(int h) {
        return isWithin(h, 0, MAX_FAR) ? ground.unlikeOf(h) : OUTSIDE;
    }

    public int place(int x, int y, int what) {
        if (!isPlace(x, y) || !isWithin(what, 0, 5)) {
            return OUTSIDE;
        }
        if (what == 0) {
            return ground.sampleAt(x, y);
        }
        estimate.weigh(x, y, ONE_PLACE, NONE);
        switch (what) {
            case 1: return estimate.count;
            case 2: return estimate.setOfLooked();
            case 3: return estimate.exists() ? 1 : 0;
            case 4: return estimate.sound ? 1 : 0;
            default: return estimate.setBelowNothing();
        }
    }

    public int looked(int x, int y, int i) {
        if (!isPlace(x, y) || !isWithin(i, 0, MAX_LOOKED - 1)) {
            return OUTSIDE;
        }
        estimate.lookFrom(x, y, NONE);
        return i < estimate.count ? estimate.looked[i] : NONE;
    }

    public long guess(int x, int y, int what) {
        if (!isPlace(x, y) || !isWithin(what, 0, 5)) {
            return BEYOND;
        }
        estimate.weigh(x, y, ONE_PLACE, NONE);
        return estimate.exists() ? estimate.tellPart(what) : NOTHING;
    }

    public long weight(int x, int y, int i, int what) {
        if (!isPlace(x, y) || !isWithin(i, 0, MAX_LOOKED - 1) || !isWithin(what, 0, 1)) {
            return BEYOND;
        }
        estimate.weigh(x, y, ONE_PLACE, NONE);
        if (!estimate.exists() || i >= estimate.count) {
            return NOTHING;
        }
        return inLowestTerms(estimate.parts[i], estimate.below(), what);
    }

    public long block(int x, int y, int what) {
        if (!isWithin(x, 0, SIDE - 2) || !isWithin(y, 0, SIDE - 2) || !isWithin(what, 0, 3)) {
            return BEYOND;
        }
        estimate.weigh(x, y, BLOCK_PLACES, NONE);
        return estimate.exists() ? estimate.tellPart(what) : NOTHING;
    }

    public long error(int i, int what) {
        if (!isSample(i)) {
            return NOBODY;
        }
        if (!isWithin(what, 0, 1)) {
            return BEYOND;
        }
        weighLeftOut(i);
        return estimate.exists() ? inLowestTerms(errorAbove(i), estimate.below(), what) : NOTHING;
    }

    public int hole(int x, int y, int u, int v) {
        if (!isPlace(x, y) || !isPlace(u, v)) {
            return OUTSIDE;
        }
        if (!isWithin(u - x, 0, MAX_STEP) || !isWithin(v - y, 0, MAX_STEP)) {
            return OUTSIDE;
        }
        return nextHole(x, y, u, v);
    }

    // ---- deeds

    public int sample(int x, int y, int g) {
        if (!isPlace(x, y) || !isGrade(g)) {
            return OUTSIDE;
        }
        if (ground.samples >= MAX_SAMPLES) {
            return FULL;
        }
        if (ground.sampleAt(x, y) != NONE) {
            return NOT;
        }
        history.remember(ground);
        ground.addSample(x, y, g);
        return ground.samples - 1;
    }

    public int take(int i) {
        if (!isSample(i)) {
            return UNKNOWN;
        }
        history.remember(ground);
        ground.removeSample(i);
        return ground.samples;
    }

    public int grade(int i, int g) {
        if (!isSample(i)) {
            return UNKNOWN;
        }
        if (!isGrade(g)) {
            return OUTSIDE;
        }
        history.remember(ground);
        int was = ground.grades[i];
        ground.grades[i] = g;
        return was;
    }

    public int pieces(int nugget, int steep, int knot, int flat, int range) {
        if (!isWithin(nugget, 0, 9) || !isWithin(steep, 1, 9) || !isWithin(knot, 1, 10)) {
            return OUTSIDE;
        }
        if (!isWithin(flat, 0, steep) || !isWithin(range, knot, 20)) {
            return OUTSIDE;
        }
        history.remember(ground);
        int was = ground.unlikeOf(10);
        ground.nugget = nugget;
        ground.steep = steep;
        ground.knot = knot;
        ground.flat = flat;
        ground.range = range;
        return was;
    }

    public int search(int most, int quarter, int reach) {
        if (!isWithin(most, 1, MAX_LOOKED) || !isWithin(quarter, 1, MAX_LOOKED) || !isWithin(reach, 1, MAX_FAR)) {
            return OUTSIDE;
        }
        history.remember(ground);
        int was = ground.most;
        ground.most = most;
        ground.inQuarter = quarter;
        ground.reach = reach;
        return was;
    }

    public int metric(int v) {
        if (!isWithin(v, 0, 1)) {
            return OUTSIDE;
        }
        history.remember(ground);
        int was = ground.metric;
        ground.metric = v;
        return was;
    }

    public int drift(int n) {
        if (!isWithin(n, 1, 10)) {
            return OUTSIDE;
        }
        for (int turn = 0; turn < n && ground.samples < MAX_SAMPLES; turn++) {
            sampleByDraws();
        }
        return ground.samples;
    }

    public int undo(int n) {
        if (!isWithin(n, 1, MAX_UNDO)) {
            return OUTSIDE;
        }
        if (n > history.kept) {
            return NOT;
        }
        history.bringBack(n, ground);
        return history.kept;
    }

    // ---- the book

    public int write(int x, int y, int v) {
        if (!isPlace(x, y)) {
            return OUTSIDE;
        }
        if (book.entries >= MAX_BOOK) {
            return FULL;
        }
        book.addEntry(x, y, v);
        return book.entries;
    }

    public int tear() {
        int had = book.entries;
        book.entries = 0;
        return had;
    }

    // ---- images

    public int seed(int v) {
        if (v < 0) {
            return OUTSIDE;
        }
        int was = seed;
        seed = v;
        return was;
    }

    public int keep(int i) {
        if (!isWithin(i, 0, IMAGES - 1)) {
            return UNKNOWN;
        }
        Image image = images[i];
        image.ground.become(ground);
        image.seed = seed;
        image.kept = true;
        history.forget();
        return 1;
    }

    public int goBack(int i) {
        if (!isWithin(i, 0, IMAGES - 1)) {
            return UNKNOWN;
        }
        Image image = images[i];
        if (!image.kept) {
            return NOT;
        }
        ground.become(image.ground);
        seed = image.seed;
        history.forget();
        return 1;
    }

    // ---- bounds

    private static boolean isWithin(int value, int least, int greatest) {
        return value >= least && value <= greatest;
    }

    private static boolean isPlace(int x, int y) {
        return isWithin(x, 0, SIDE - 1) && isWithin(y, 0, SIDE - 1);
    }

    private static boolean isGrade(int g) {
        return isWithin(g, 0, GRADES - 1);
    }

    private boolean isSample(int i) {
        return isWithin(i, 0, ground.samples - 1);
    }

    // ---- left out

    private void weighLeftOut(int i) {
        estimate.weigh(ground.xs[i], ground.ys[i], ONE_PLACE, i);
    }

    private long errorAbove(int i) {
        return estimate.gradeAbove() - ground.grades[i] * estimate.below();
    }

    private int countWithoutLeftOut() {
        int without = 0;
        for (int i = 0; i < ground.samples; i++) {
            weighLeftOut(i);
            if (!estimate.exists()) {
                without++;
            }
        }
        return without;
    }

    private int farthestError() {
        int farthest = NONE;
        long farthestAbove = 0;
        long farthestBelow = 1;
        for (int i = 0; i < ground.samples; i++) {
            weighLeftOut(i);
            if (!estimate.exists()) {
                continue;
            }
            long above = Math.abs(errorAbove(i));
            long below = estimate.below();
            if (farthest == NONE || isMore(above, below, farthestAbove, farthestBelow)) {
                farthest = i;
                farthestAbove = above;
                farthestBelow = below;
            }
        }
        return farthest;
    }

    // ---- the next hole

    private int nextHole(int x, int y, int u, int v) {
        int best = NONE;
        long bestAbove = 0;
        long bestBelow = 1;
        for (int row = y; row <= v; row++) {
            for (int column = x; column <= u; column++) {
                if (!weighEmptyPlace(column, row)) {
                    continue;
                }
                long above = estimate.spreadAbove();
                long below = estimate.spreadBelow();
                if (best == NONE || isMore(above, below, bestAbove, bestBelow)) {
                    best = 100 * row + column;
                    bestAbove = above;
                    bestBelow = below;
                }
            }
        }
        return best;
    }

    private boolean weighEmptyPlace(int x, int y) {
        if (ground.sampleAt(x, y) != NONE) {
            return false;
        }
        estimate.weigh(x, y, ONE_PLACE, NONE);
        return estimate.exists();
    }

    // ---- draws and the book

    private int nextDraw() {
        seed = (int) ((seed * 1103515245L + 12345L) & SEED_BITS);
        return seed / 65536;
    }

    private void sampleByDraws() {
        int x = nextDraw() % SIDE;
        int y = nextDraw() % SIDE;
        int g = nextDraw() % GRADES;
        if (ground.sampleAt(x, y) == NONE) {
            history.remember(ground);
            ground.addSample(x, y, g);
        }
    }

    private int firstWrong() {
        for (int i = 0; i < book.entries; i++) {
            estimate.weigh(book.xs[i], book.ys[i], ONE_PLACE, NONE);
            // A long, for nothing keeps a GRADE within the bounds of an int.
            long now = estimate.exists() ? estimate.gradeCut() : NONE;
            if (now != book.values[i]) {
                return i;
            }
        }
        return NONE;
    }

    // ---- fractions

    /**
     * Products stay within a long: UNLIKE is 189 at most, so (determinants of 0 and 1 being 5 at
     * most for 5 rows, 9 for 6) a divisor is below 3.4e7, an ERROR's upper part below 1.4e11, a
     * SPREAD's below 1.2e10.
     */
    private static boolean isMore(long above, long below, long thanAbove, long thanBelow) {
        return above * thanBelow > thanAbove * below;
    }

    /** Part 0 is ABOVE, part 1 BELOW; the divisor given is above 0. */
    private static long inLowestTerms(long above, long below, int part) {
        long common = commonDivisor(Math.abs(above), below);
        if (common == 0) {
            return NOTHING;
        }
        return (part == 0 ? above : below) / common;
    }

    private static long commonDivisor(long a, long b) {
        long greater = a;
        long less = b;
        // Euclid needs at most 92 steps for longs.
        for (int step = 0; step < 100 && less != 0; step++) {
            long rest = greater % less;
            greater = less;
            less = rest;
        }
        return greater;
    }

    /** All of section 1: what deeds change, and what undo and images bring back. */
    private static final class Ground {
        int samples;
        final int[] xs = new int[MAX_SAMPLES];
        final int[] ys = new int[MAX_SAMPLES];
        final int[] grades = new int[MAX_SAMPLES];
        int metric;
        int nugget = 0;
        int steep = 2;
        int knot = 5;
        int flat = 1;
        int range = 12;
        int most = MAX_LOOKED;
        int inQuarter = MAX_LOOKED;
        int reach = MAX_FAR;

        void become(Ground other) {
            samples = other.samples;
            System.arraycopy(other.xs, 0, xs, 0, MAX_SAMPLES);
            System.arraycopy(other.ys, 0, ys, 0, MAX_SAMPLES);
            System.arraycopy(other.grades, 0, grades, 0, MAX_SAMPLES);
            metric = other.metric;
            nugget = other.nugget;
            steep = other.steep;
            knot = other.knot;
            flat = other.flat;
            range = other.range;
            most = other.most;
            inQuarter = other.inQuarter;
            reach = other.reach;
        }

        int sampleAt(int x, int y) {
            for (int i = 0; i < samples; i++) {
                if (xs[i] == x && ys[i] == y) {
                    return i;
                }
            }
            return NONE;
        }

        void addSample(int x, int y, int g) {
            if (samples >= MAX_SAMPLES) {
                return;
            }
            xs[samples] = x;
            ys[samples] = y;
            grades[samples] = g;
            samples++;
        }

        void removeSample(int i) {
            for (int later = i + 1; later < samples; later++) {
                xs[later - 1] = xs[later];
                ys[later - 1] = ys[later];
                grades[later - 1] = grades[later];
            }
            samples--;
        }

        int far(int apartX, int apartY) {
            int inX = Math.abs(apartX);
            int inY = Math.abs(apartY);
            return metric == 0 ? inX + inY : Math.max(inX, inY);
        }

        int unlikeOf(int h) {
            if (h == 0) {
                return 0;
            }
            int steepPiece = steep * Math.min(h, knot);
            int flatPiece = h > knot ? flat * (Math.min(h, range) - knot) : 0;
            return nugget + steepPiece + flatPiece;
        }

        int unlikeApart(int apartX, int apartY) {
            return unlikeOf(far(apartX, apartY));
        }

        int quarterOf(int i, int x, int y) {
            if (ys[i] >= y) {
                return xs[i] >= x ? 0 : 1;
            }
            return xs[i] >= x ? 3 : 2;
        }
    }

    /**
     * The SAMPLES LOOKED AT and their WEIGHTS, for a place or a block.
     *
     * <p>The first sample's equation is taken from the others', and its weight told as 1 less the
     * others'. That leaves three equations at most, with the table B(i, j) = U(0, i) + U(0, j) -
     * U(i, j). The determinant of B for the first k samples is that of the document's table with
     * ones, but for the sign, which turns with each k: so SOUND asks that each is above 0.
     */
    private static final class Estimate {
        private static final int QUARTERS = 4;
        private static final int ROWS = MAX_LOOKED - 1;

        private final Ground ground;
        final int[] looked = new int[MAX_LOOKED];
        int count;
        boolean sound;
        /** WEIGHTS times below(). */
        final long[] parts = new long[MAX_LOOKED];

        private final int[] fars = new int[MAX_SAMPLES];
        private final int[] takenInQuarter = new int[QUARTERS];
        /** UNLIKE of each two samples looked at. */
        private final int[] between = new int[MAX_LOOKED * MAX_LOOKED];
        /** UNLIKE of each sample looked at and all places guessed for, summed. */
        private final int[] toPlaces = new int[MAX_LOOKED];
        /** UNLIKE of each place guessed for and each of them, summed. */
        private int withinPlaces;
        private final long[] table = new long[ROWS * ROWS];
        private final long[] wanted = new long[ROWS];
        /** How many places are guessed for at once: ONE_PLACE or BLOCK_PLACES. */
        private int places;
        /** The determinant; 0 if there is no GUESS, else made to be above 0. */
        private long whole;

        Estimate(Ground ground) {
            this.ground = ground;
        }

        /** Makes the guess as if the sample without (NONE: all are there) were not there. */
        void weigh(int x, int y, int howManyPlaces, int without) {
            places = howManyPlaces;
            lookFrom(x, y, without);
            if (count == 0) {
                whole = 0;
                sound = true;
                return;
            }
            fillBetween();
            sumToPlaces(x, y);
            sumWithinPlaces();
            fillTable();
            whole = table[0] * cofactor(0, 0) + table[1] * cofactor(0, 1) + table[2] * cofactor(0, 2);
            sound = table[0] > 0 && cofactor(2, 2) > 0 && whole > 0;
            share();
            if (whole < 0) {
                turnSigns();
            }
        }

        boolean exists() {
            return whole != 0;
        }

        // ---- looked at

        void lookFrom(int x, int y, int without) {
            count = 0;
            for (int quarter = 0; quarter < QUARTERS; quarter++) {
                takenInQuarter[quarter] = 0;
            }
            for (int i = 0; i < ground.samples; i++) {
                fars[i] = ground.far(ground.xs[i] - x, ground.ys[i] - y);
            }
            int passed = without == NONE ? 0 : 1 << without;
            for (int turn = 0; turn < ground.samples && count < ground.most; turn++) {
                int next = nearestBut(passed);
                if (next == NONE) {
                    return;
                }
                passed |= 1 << next;
                lookAt(next, ground.quarterOf(next, x, y));
            }
        }

        private int nearestBut(int passed) {
            int nearest = NONE;
            int least = ground.reach + 1;
            for (int i = 0; i < ground.samples; i++) {
                if (fars[i] < least && (passed >> i & 1) == 0) {
                    nearest = i;
                    least = fars[i];
                }
            }
            return nearest;
        }

        private void lookAt(int i, int quarter) {
            if (takenInQuarter[quarter] < ground.inQuarter && count < MAX_LOOKED) {
                takenInQuarter[quarter]++;
                looked[count] = i;
                count++;
            }
        }

        int setOfLooked() {
            int set = 0;
            for (int i = 0; i < count; i++) {
                set |= 1 << looked[i];
            }
            return set;
        }

        // ---- how unlike they are

        private void fillBetween() {
            for (int i = 0; i < count; i++) {
                int a = looked[i];
                for (int j = 0; j < count; j++) {
                    int b = looked[j];
                    between[i * MAX_LOOKED + j] = ground.unlikeApart(ground.xs[a] - ground.xs[b], ground.ys[a] - ground.ys[b]);
                }
            }
        }

        private void sumToPlaces(int x, int y) {
            for (int i = 0; i < count; i++) {
                int a = looked[i];
                int sum = 0;
                for (int p = 0; p < places; p++) {
                    sum += ground.unlikeApart(ground.xs[a] - x - alongX(p), ground.ys[a] - y - alongY(p));
                }
                toPlaces[i] = sum;
            }
        }

        private void sumWithinPlaces() {
            withinPlaces = 0;
            for (int p = 0; p < places; p++) {
                for (int q = 0; q < places; q++) {
                    withinPlaces += ground.unlikeApart(alongX(p) - alongX(q), alongY(p) - alongY(q));
                }
            }
        }

        private static int alongX(int p) {
            return p & 1;
        }

        private static int alongY(int p) {
            return p >> 1;
        }

        // ---- weights

        /** Rows for samples that are not there are those of 1 on the diagonal: they change nothing. */
        private void fillTable() {
            for (int i = 0; i < ROWS; i++) {
                boolean isThere = i + 1 < count;
                wanted[i] = isThere ? toPlaces[0] + places * between[i + 1] - toPlaces[i + 1] : 0;
                for (int j = 0; j < ROWS; j++) {
                    if (isThere && j + 1 < count) {
                        table[i * ROWS + j] = between[i + 1] + between[j + 1] - between[(i + 1) * MAX_LOOKED + j + 1];
                    } else {
                        table[i * ROWS + j] = i == j ? 1 : 0;
                    }
                }
            }
        }

        private long cofactor(int row, int column) {
            int upper = (row == 0 ? 1 : 0) * ROWS;
            int lower = (row == 2 ? 1 : 2) * ROWS;
            int left = column == 0 ? 1 : 0;
            int right = column == 2 ? 1 : 2;
            long minor = table[upper + left] * table[lower + right] - table[upper + right] * table[lower + left];
            return (row + column & 1) == 0 ? minor : -minor;
        }

        private void share() {
            parts[0] = places * whole;
            for (int j = 0; j < ROWS; j++) {
                long part = wanted[0] * cofactor(0, j) + wanted[1] * cofactor(1, j) + wanted[2] * cofactor(2, j);
                parts[j + 1] = part;
                parts[0] -= part;
            }
        }

        /** For fractions are told, and held against each other, by what is above 0. */
        private void turnSigns() {
            whole = -whole;
            for (int i = 0; i < MAX_LOOKED; i++) {
                parts[i] = -parts[i];
            }
        }

        int setBelowNothing() {
            int set = 0;
            for (int i = 0; i < count && exists(); i++) {
                if (parts[i] < 0) {
                    set |= 1 << looked[i];
                }
            }
            return set;
        }

        // ---- what the guess tells

        /** What = 0, 1 GRADE, 2, 3 SPREAD, 4, 5 FLOOR, each ABOVE and BELOW. */
        long tellPart(int what) {
            int part = what & 1;
            switch (what >> 1) {
                case 0: return inLowestTerms(gradeAbove(), below(), part);
                case 1: return inLowestTerms(spreadAbove(), spreadBelow(), part);
                default: return inLowestTerms(floorAbove(), below(), part);
            }
        }

        /** What WEIGHTS, GRADE and FLOOR are told by. */
        long below() {
            return places * whole;
        }

        long gradeAbove() {
            long sum = 0;
            for (int i = 0; i < count; i++) {
                sum += parts[i] * ground.grades[looked[i]];
            }
            return sum;
        }

        long gradeCut() {
            long below = below();
            return below == 0 ? NONE : gradeAbove() / below;
        }

        /** By the first sample's equation. */
        private long floorAbove() {
            long floor = toPlaces[0] * whole;
            for (int i = 1; i < count; i++) {
                floor -= parts[i] * between[i];
            }
            return floor;
        }

        /** The sums of UNLIKE are told by how many places there are, so this is by its square. */
        long spreadAbove() {
            long spread = places * floorAbove() - withinPlaces * whole;
            for (int i = 0; i < count; i++) {
                spread += parts[i] * toPlaces[i];
            }
            return spread;
        }

        long spreadBelow() {
            return places * below();
        }
    }

    /** What was ahead of the latest deeds, in a ring: the oldest gives way. */
    private static final class History {
        private final Ground[] ahead = new Ground[MAX_UNDO];
        private int next;
        int kept;

        History() {
            for (int i = 0; i < MAX_UNDO; i++) {
                ahead[i] = new Ground();
            }
        }

        void remember(Ground ground) {
            ahead[next].become(ground);
            next = (next + 1) % MAX_UNDO;
            kept = Math.min(kept + 1, MAX_UNDO);
        }

        void bringBack(int n, Ground ground) {
            next = Math.floorMod(next - n, MAX_UNDO);
            kept -= n;
            ground.become(ahead[next]);
        }

        void forget() {
            kept = 0;
        }
    }

    /** Guesses told by others, to be judged. */
    private static final class Book {
        int entries;
        final int[] xs = new int[MAX_BOOK];
        final int[] ys = new int[MAX_BOOK];
        final int[] values = new int[MAX_BOOK];

        void addEntry(int x, int y, int v) {
            if (entries >= MAX_BOOK) {
                return;
            }
            xs[entries] = x;
            ys[entries] = y;
            values[entries] = v;
            entries++;
        }
    }

    private static final class Image {
        final Ground ground = new Ground();
        int seed;
        boolean kept;
    }
}
