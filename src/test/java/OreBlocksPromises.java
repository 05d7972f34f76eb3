/** Each promise of the document by calls with the answers that are due, worked out by hand. */
public final class OreBlocksPromises {
    private static final int NONE = -1, UNKNOWN = -1000000001, OUTSIDE = -1000000002, NOT = -1000000003, FULL = -1000000004;
    private static final long NOTHING = -4000000000000000000L, NOBODY = -4000000000000000001L, BEYOND = -4000000000000000002L;
    private static final int LEAST = Integer.MIN_VALUE, GREATEST = Integer.MAX_VALUE;
    private static int wrong = 0;
    private static int promise = 0;
    private static int row = 0;

    public static void main(String[] args) {
        newObject();
        told();
        toldOfErrors();
        at();
        unlike();
        place();
        placeWithoutGuess();
        looked();
        lookedInQuarters();
        guess();
        weight();
        block();
        error();
        hole();
        holeOfLikeOnes();
        sample();
        take();
        grade();
        pieces();
        search();
        metric();
        drift();
        driftMeetsSamples();
        undo();
        undoOfSixteen();
        undoKeepsSeedAndBook();
        write();
        wrongEntries();
        tear();
        seed();
        keep();
        goBack();
        refusalsChangeNothing();
        System.out.println(wrong == 0 ? "all promises are kept" : wrong + " answers are not as due");
        if (wrong != 0) System.exit(1);
    }

    private static void promise(int number) {
        promise = number;
        row = 0;
    }

    private static void due(long got, long want) {
        row++;
        if (got != want) {
            wrong++;
            System.out.println("promise " + promise + ", row " + row + ": answered " + got + ", due is " + want
                + ", at " + new Throwable().getStackTrace()[1]);
        }
    }

    private static void dueTold(OreBlocks o, int... want) {
        for (int i = 0; i < want.length; i++) due(o.told(i), want[i]);
    }

    private static void newObject() {
        promise(1);
        OreBlocks o = new OreBlocks();
        dueTold(o, 0, 0, 0, 2, 5, 1, 12, 4, 4, 62, 0, NONE, 0, NONE, 0, 0);
        due(o.at(0, 0), UNKNOWN);
        due(o.goBack(0), NOT);
        due(o.goBack(1), NOT);
        OreBlocks other = new OreBlocks();
        o.sample(1, 1, 1);
        due(other.told(0), 0);
    }

    private static void told() {
        promise(2);
        OreBlocks o = Grounds.three();
        o.metric(1);
        o.pieces(3, 4, 6, 2, 15);
        o.search(2, 1, 30);
        o.write(0, 0, 5);
        o.seed(77);
        dueTold(o, 3, 1, 3, 4, 6, 2, 15, 2, 1, 30);
        due(o.told(12), 1);
        due(o.told(13), 0);
        due(o.told(14), 6);
        due(o.told(15), 77);
        for (int what : new int[] {-1, 16, LEAST, GREATEST}) due(o.told(what), OUTSIDE);
    }

    private static void toldOfErrors() {
        promise(2);
        OreBlocks o = new OreBlocks();
        o.sample(0, 0, 100);
        due(o.told(10), 1);
        due(o.told(11), NONE);
        // Each of two is guessed to be the other: errors 200, -200, and the least number is told.
        o.sample(5, 0, 300);
        due(o.told(10), 0);
        due(o.told(11), 0);
        o.sample(31, 31, 999);
        due(o.told(11), 2);
        // By reach 1 nobody sees another.
        o.search(4, 4, 1);
        due(o.told(10), 3);
        due(o.told(11), NONE);
        // Only the first and the second see each other.
        o.search(4, 4, 5);
        due(o.told(10), 1);
        due(o.told(11), 0);
    }

    private static void at() {
        promise(3);
        OreBlocks o = Grounds.three();
        due(o.at(1, 0), 12);
        due(o.at(1, 1), 10);
        due(o.at(1, 2), 200);
        due(o.at(2, 1), 13);
        due(o.at(0, 3), OUTSIDE);
        due(o.at(0, -1), OUTSIDE);
        due(o.at(3, 0), UNKNOWN);
        due(o.at(-1, 0), UNKNOWN);
        due(o.at(3, 3), UNKNOWN);
        due(o.at(LEAST, GREATEST), UNKNOWN);
        due(o.at(GREATEST, 0), UNKNOWN);
    }

    private static void unlike() {
        promise(4);
        OreBlocks o = new OreBlocks();
        int[] want = {0, 2, 4, 6, 8, 10, 11, 12, 13, 14, 15, 16, 17, 17};
        for (int h = 0; h < want.length; h++) due(o.unlike(h), want[h]);
        due(o.unlike(62), 17);
        o.pieces(9, 9, 10, 9, 20);
        due(o.unlike(0), 0);
        due(o.unlike(1), 18);
        due(o.unlike(10), 99);
        due(o.unlike(11), 108);
        due(o.unlike(20), 189);
        due(o.unlike(21), 189);
        o.pieces(1, 3, 4, 0, 4);
        due(o.unlike(4), 13);
        due(o.unlike(5), 13);
        for (int h : new int[] {-1, 63, LEAST, GREATEST}) due(o.unlike(h), OUTSIDE);
    }

    private static void place() {
        promise(5);
        OreBlocks o = Grounds.three();
        due(o.place(12, 10, 0), 1);
        due(o.place(10, 12, 0), NONE);
        due(o.place(11, 11, 1), 3);
        due(o.place(11, 11, 2), 7);
        due(o.place(11, 11, 3), 1);
        due(o.place(11, 11, 4), 1);
        due(o.place(11, 11, 5), 0);
        // The third stands behind the first, beyond the knot: its weight is -4 by 143.
        OreBlocks p = new OreBlocks();
        p.sample(10, 10, 100);
        p.sample(10, 13, 300);
        p.sample(7, 10, 400);
        due(p.place(10, 11, 5), 4);
        due(p.place(10, 11, 4), 1);
        due(o.place(31, 31, 0), NONE);
        int[][] out = {{-1, 0, 0}, {32, 0, 0}, {0, -1, 0}, {0, 32, 0}, {0, 0, -1}, {0, 0, 6}, {LEAST, 0, 0}, {0, GREATEST, 0}, {0, 0, LEAST}};
        for (int[] a : out) due(o.place(a[0], a[1], a[2]), OUTSIDE);
    }

    private static void placeWithoutGuess() {
        promise(5);
        OreBlocks o = Grounds.square();
        o.pieces(0, 1, 10, 1, 20);
        due(o.place(5, 5, 1), 4);
        due(o.place(5, 5, 2), 15);
        due(o.place(5, 5, 3), 0);
        due(o.place(5, 5, 4), 0);
        due(o.place(5, 5, 5), 0);
        for (int what = 0; what < 6; what++) due(o.guess(5, 5, what), NOTHING);
        due(o.weight(5, 5, 0, 0), NOTHING);
        due(o.block(5, 5, 0), NOTHING);
        due(o.block(5, 5, 2), NOTHING);
        due(o.looked(5, 5, 3), 3);
        due(o.hole(5, 5, 5, 5), NONE);
        // With a nugget the same corners are told apart.
        o.pieces(1, 1, 10, 1, 20);
        due(o.place(5, 5, 3), 1);
        due(o.place(5, 5, 4), 1);
        // Three of them have a guess.
        o.pieces(0, 1, 10, 1, 20);
        o.search(3, 4, 62);
        due(o.place(5, 5, 3), 1);
        due(o.place(5, 5, 4), 1);
        // None looked at: no guess, and sound.
        o.search(4, 4, 1);
        due(o.place(20, 20, 1), 0);
        due(o.place(20, 20, 2), 0);
        due(o.place(20, 20, 3), 0);
        due(o.place(20, 20, 4), 1);
        due(o.place(20, 20, 5), 0);
    }

    private static void looked() {
        promise(6);
        OreBlocks o = Grounds.three();
        due(o.looked(11, 12, 0), 2);
        due(o.looked(11, 12, 1), 0);
        due(o.looked(11, 12, 2), 1);
        due(o.looked(11, 12, 3), NONE);
        // 0 and 1 are alike far from 11, 10: the least number first.
        due(o.looked(11, 10, 0), 0);
        due(o.looked(11, 10, 1), 1);
        o.search(4, 4, 2);
        due(o.looked(10, 10, 1), 1);
        due(o.looked(10, 10, 2), NONE);
        o.search(4, 4, 3);
        due(o.looked(10, 10, 2), 2);
        o.search(1, 4, 62);
        due(o.looked(10, 10, 0), 0);
        due(o.looked(10, 10, 1), NONE);
        int[][] out = {{-1, 0, 0}, {32, 0, 0}, {0, -1, 0}, {0, 32, 0}, {0, 0, -1}, {0, 0, 4}, {GREATEST, 0, 0}, {0, LEAST, 0}, {0, 0, GREATEST}};
        for (int[] a : out) due(o.looked(a[0], a[1], a[2]), OUTSIDE);
    }

    private static void lookedInQuarters() {
        promise(6);
        OreBlocks o = new OreBlocks();
        o.sample(10, 10, 0);
        o.sample(11, 10, 0);
        o.sample(10, 12, 0);
        o.sample(7, 10, 0);
        o.sample(9, 7, 0);
        o.sample(10, 5, 0);
        o.search(4, 1, 62);
        // Seen from 10, 10: 0, 1, 2 are in quarter 0, 3 in quarter 1, 4 in quarter 2, 5 in quarter 3.
        due(o.looked(10, 10, 0), 0);
        due(o.looked(10, 10, 1), 3);
        due(o.looked(10, 10, 2), 4);
        due(o.looked(10, 10, 3), 5);
        o.search(4, 2, 62);
        due(o.looked(10, 10, 1), 1);
        due(o.looked(10, 10, 2), 3);
        due(o.looked(10, 10, 3), 4);
        o.search(3, 1, 4);
        due(o.place(10, 10, 2), 1 + 8 + 16);
        o.search(4, 1, 3);
        due(o.place(10, 10, 2), 1 + 8);
        // By the greater way 4 is 3 far.
        o.metric(1);
        due(o.place(10, 10, 2), 1 + 8 + 16);
    }

    private static void guess() {
        promise(7);
        OreBlocks o = new OreBlocks();
        for (int what = 0; what < 6; what++) due(o.guess(0, 0, what), NOTHING);
        // One alone: its grade; spread is twice, floor once how unlike it is.
        o.sample(0, 0, 999);
        long[] one = {999, 1, 24, 1, 12, 1};
        for (int what = 0; what < 6; what++) due(o.guess(3, 4, what), one[what]);
        // Of two, 1 and 2 away, with 2 by step: weights 2/3 and 1/3, floor 0, spread 8/3.
        o = new OreBlocks();
        o.sample(10, 10, 100);
        o.sample(13, 10, 301);
        long[] two = {167, 1, 8, 3, 0, 1};
        for (int what = 0; what < 6; what++) due(o.guess(11, 10, what), two[what]);
        // At a sample it is that sample.
        long[] own = {301, 1, 0, 1, 0, 1};
        for (int what = 0; what < 6; what++) due(o.guess(13, 10, what), own[what]);
        // By a floor below 0: four around, each 1 far, all 2 apart.
        o = Grounds.square();
        o.metric(1);
        o.pieces(0, 1, 2, 0, 2);
        long[] four = {25, 1, 1, 2, -1, 2};
        for (int what = 0; what < 6; what++) due(o.guess(5, 5, what), four[what]);
        int[][] out = {{-1, 0, 0}, {32, 0, 0}, {0, -1, 0}, {0, 32, 0}, {0, 0, -1}, {0, 0, 6}, {GREATEST, 0, 0}, {0, LEAST, 0}, {0, 0, GREATEST}};
        for (int[] a : out) due(o.guess(a[0], a[1], a[2]), BEYOND);
    }

    private static void weight() {
        promise(8);
        OreBlocks o = Grounds.three();
        long[] want = {1, 6, 1, 2, 1, 3};
        for (int i = 0; i < 3; i++) {
            due(o.weight(11, 11, i, 0), want[2 * i]);
            due(o.weight(11, 11, i, 1), want[2 * i + 1]);
        }
        due(o.weight(11, 11, 3, 0), NOTHING);
        due(o.weight(11, 11, 3, 1), NOTHING);
        // 0 is 0 by 1.
        due(o.weight(10, 10, 1, 0), 0);
        due(o.weight(10, 10, 1, 1), 1);
        // Numbered as looked at, not as they came.
        due(o.weight(10, 13, 0, 0), 1);
        due(o.weight(10, 13, 0, 1), 1);
        OreBlocks p = new OreBlocks();
        due(p.weight(0, 0, 0, 0), NOTHING);
        p.sample(10, 10, 100);
        p.sample(10, 13, 300);
        p.sample(7, 10, 400);
        due(p.weight(10, 11, 2, 0), -4);
        due(p.weight(10, 11, 2, 1), 143);
        int[][] out = {{-1, 0, 0, 0}, {32, 0, 0, 0}, {0, -1, 0, 0}, {0, 32, 0, 0}, {0, 0, -1, 0}, {0, 0, 4, 0}, {0, 0, 0, -1}, {0, 0, 0, 2}, {0, 0, GREATEST, 0}, {0, 0, 0, LEAST}};
        for (int[] a : out) due(o.weight(a[0], a[1], a[2], a[3]), BEYOND);
    }

    private static void block() {
        promise(9);
        OreBlocks o = new OreBlocks();
        for (int what = 0; what < 4; what++) due(o.block(0, 0, what), NOTHING);
        // Unlike 0, 2, 2, 4 to the four, 2 on average, as within: spread 2 + 2 - 2.
        o.sample(5, 5, 100);
        long[] one = {100, 1, 2, 1};
        for (int what = 0; what < 4; what++) due(o.block(5, 5, what), one[what]);
        // By the greater way 0, 2, 2, 2: 3/2 on average, as within.
        o.metric(1);
        long[] greater = {100, 1, 3, 2};
        for (int what = 0; what < 4; what++) due(o.block(5, 5, what), greater[what]);
        due(o.block(30, 30, 0), 100);
        due(o.block(0, 0, 0), 100);
        o = Grounds.square();
        o.metric(1);
        o.pieces(0, 1, 2, 0, 2);
        long[] four = {35, 2, 7, 32};
        for (int what = 0; what < 4; what++) due(o.block(4, 4, what), four[what]);
        // It looks from x, y alone: a sample at the far corner may be out of reach.
        o = new OreBlocks();
        o.sample(11, 11, 50);
        o.search(4, 4, 1);
        due(o.block(10, 10, 0), NOTHING);
        due(o.block(10, 11, 0), 50);
        int[][] out = {{-1, 0, 0}, {31, 0, 0}, {0, -1, 0}, {0, 31, 0}, {0, 0, -1}, {0, 0, 4}, {GREATEST, 0, 0}, {0, LEAST, 0}, {0, 0, GREATEST}};
        for (int[] a : out) due(o.block(a[0], a[1], a[2]), BEYOND);
    }

    private static void error() {
        promise(10);
        OreBlocks o = new OreBlocks();
        due(o.error(0, 0), NOBODY);
        o.sample(10, 10, 100);
        due(o.error(0, 0), NOTHING);
        due(o.error(0, 1), NOTHING);
        o.sample(13, 10, 301);
        due(o.error(0, 0), 201);
        due(o.error(1, 0), -201);
        due(o.error(1, 1), 1);
        // Between the two, 2/3 and 1/3: 167, less 170.
        o.sample(11, 10, 170);
        due(o.error(2, 0), -3);
        due(o.error(2, 1), 1);
        o.grade(1, 300);
        due(o.error(2, 0), -10);
        due(o.error(2, 1), 3);
        due(o.told(0), 3);
        due(o.error(3, 0), NOBODY);
        due(o.error(-1, 0), NOBODY);
        due(o.error(3, 2), NOBODY);
        due(o.error(2, 2), BEYOND);
        due(o.error(2, -1), BEYOND);
        due(o.error(LEAST, 0), NOBODY);
        due(o.error(0, GREATEST), BEYOND);
    }

    private static void hole() {
        promise(11);
        OreBlocks o = new OreBlocks();
        due(o.hole(0, 0, 7, 7), NONE);
        o.sample(10, 10, 5);
        // The farthest from it tells most.
        due(o.hole(10, 10, 13, 14), 1413);
        due(o.hole(10, 10, 10, 10), NONE);
        due(o.hole(10, 10, 11, 10), 1011);
        due(o.hole(24, 24, 31, 31), 2424);
        due(o.hole(31, 31, 31, 31), 3131);
        o.search(4, 4, 3);
        due(o.hole(10, 10, 17, 17), 1013);
        due(o.hole(20, 20, 27, 27), NONE);
        int[][] out = {{-1, 0, 0, 0}, {0, -1, 0, 0}, {32, 0, 32, 0}, {0, 32, 0, 32}, {25, 0, 32, 0}, {0, 25, 0, 32}, {5, 5, 4, 5}, {5, 5, 5, 4}, {5, 5, 13, 5}, {5, 5, 5, 13},
            {0, 0, LEAST, 0}, {0, 0, 0, GREATEST}, {LEAST, 0, LEAST, 0}, {0, GREATEST, 0, LEAST}};
        for (int[] a : out) due(o.hole(a[0], a[1], a[2], a[3]), OUTSIDE);
    }

    private static void holeOfLikeOnes() {
        promise(11);
        OreBlocks o = new OreBlocks();
        o.sample(10, 10, 5);
        // Four corners alike far: the least y, then x.
        due(o.hole(8, 8, 12, 12), 808);
        o.sample(8, 8, 5);
        due(o.hole(8, 10, 12, 12), 1212);
        // 11, 9 and 9, 11 are alike: the least y.
        OreBlocks p = new OreBlocks();
        p.sample(10, 10, 5);
        p.sample(9, 9, 5);
        p.sample(11, 11, 5);
        due(p.hole(9, 9, 11, 11), 911);
    }

    private static void sample() {
        promise(12);
        OreBlocks o = new OreBlocks();
        due(o.sample(0, 0, 0), 0);
        due(o.sample(31, 31, 999), 1);
        due(o.sample(0, 0, 5), NOT);
        due(o.at(0, 2), 0);
        due(o.told(14), 2);
        int[][] out = {{-1, 0, 0}, {32, 0, 0}, {0, -1, 0}, {0, 32, 0}, {1, 0, -1}, {1, 0, 1000}, {0, 0, 1000}, {GREATEST, 0, 0}, {0, LEAST, 0}, {1, 0, GREATEST}};
        for (int[] a : out) due(o.sample(a[0], a[1], a[2]), OUTSIDE);
        o = Grounds.ten();
        due(o.told(0), 10);
        due(o.sample(1, 1, 1), FULL);
        due(o.sample(0, 0, 1), FULL);
        due(o.sample(0, 0, 1000), OUTSIDE);
        due(o.told(0), 10);
        due(o.told(14), 10);
    }

    private static void take() {
        promise(13);
        OreBlocks o = Grounds.three();
        due(o.take(3), UNKNOWN);
        due(o.take(-1), UNKNOWN);
        due(o.take(LEAST), UNKNOWN);
        due(o.take(GREATEST), UNKNOWN);
        due(o.take(0), 2);
        due(o.at(0, 0), 12);
        due(o.at(1, 2), 300);
        due(o.at(2, 0), UNKNOWN);
        due(o.place(10, 10, 0), NONE);
        due(o.take(1), 1);
        due(o.take(0), 0);
        due(o.take(0), UNKNOWN);
        due(o.sample(10, 10, 7), 0);
        o = Grounds.ten();
        due(o.take(4), 9);
        due(o.at(3, 2), 30);
        due(o.at(4, 2), 50);
        due(o.at(8, 2), 90);
        due(o.sample(31, 31, 1), 9);
    }

    private static void grade() {
        promise(14);
        OreBlocks o = Grounds.three();
        due(o.grade(1, 999), 200);
        due(o.grade(1, 0), 999);
        due(o.at(1, 2), 0);
        due(o.at(0, 2), 100);
        due(o.grade(1, 1000), OUTSIDE);
        due(o.grade(1, -1), OUTSIDE);
        due(o.grade(3, 5), UNKNOWN);
        due(o.grade(-1, 5), UNKNOWN);
        due(o.grade(3, 1000), UNKNOWN);
        due(o.at(1, 2), 0);
        due(o.told(14), 5);
        // What changes nothing is a deed too.
        due(o.grade(1, 0), 0);
        due(o.told(14), 6);
    }

    private static void pieces() {
        promise(15);
        OreBlocks o = new OreBlocks();
        due(o.pieces(9, 9, 10, 9, 20), 15);
        due(o.pieces(0, 1, 1, 0, 1), 99);
        due(o.pieces(3, 4, 6, 4, 6), 1);
        due(o.pieces(3, 4, 6, 2, 8), 27);
        dueTold(o, 0, 0, 3, 4, 6, 2, 8);
        int[][] out = {{-1, 4, 6, 2, 8}, {10, 4, 6, 2, 8}, {3, 0, 6, 0, 8}, {3, 10, 6, 2, 8}, {3, 4, 0, 2, 8}, {3, 4, 11, 2, 12},
            {3, 4, 6, -1, 8}, {3, 4, 6, 5, 8}, {3, 4, 6, 2, 5}, {3, 4, 6, 2, 21}, {LEAST, 4, 6, 2, 8}, {3, GREATEST, 6, GREATEST, 8}, {3, 4, LEAST, 2, LEAST}};
        for (int[] a : out) due(o.pieces(a[0], a[1], a[2], a[3], a[4]), OUTSIDE);
        dueTold(o, 0, 0, 3, 4, 6, 2, 8);
        due(o.told(14), 4);
    }

    private static void search() {
        promise(16);
        OreBlocks o = new OreBlocks();
        due(o.search(1, 2, 3), 4);
        due(o.search(4, 1, 62), 1);
        due(o.search(3, 4, 1), 4);
        int[][] out = {{0, 1, 1}, {5, 1, 1}, {1, 0, 1}, {1, 5, 1}, {1, 1, 0}, {1, 1, 63}, {LEAST, 1, 1}, {1, GREATEST, 1}, {1, 1, LEAST}};
        for (int[] a : out) due(o.search(a[0], a[1], a[2]), OUTSIDE);
        due(o.told(7), 3);
        due(o.told(8), 4);
        due(o.told(9), 1);
        due(o.told(14), 3);
    }

    private static void metric() {
        promise(17);
        OreBlocks o = new OreBlocks();
        o.sample(10, 10, 5);
        due(o.guess(13, 14, 4), 12);
        due(o.metric(1), 0);
        due(o.guess(13, 14, 4), 8);
        due(o.guess(14, 13, 4), 8);
        due(o.metric(1), 1);
        due(o.metric(2), OUTSIDE);
        due(o.metric(-1), OUTSIDE);
        due(o.metric(LEAST), OUTSIDE);
        due(o.told(1), 1);
        due(o.metric(0), 1);
        due(o.told(14), 4);
    }

    private static void drift() {
        promise(18);
        OreBlocks o = new OreBlocks();
        due(o.drift(0), OUTSIDE);
        due(o.drift(11), OUTSIDE);
        due(o.drift(LEAST), OUTSIDE);
        due(o.drift(GREATEST), OUTSIDE);
        due(o.told(15), 0);
        // Seeds 12345, 1406932606, 654583775: by 65536 that is 0, 21468, 9988.
        due(o.drift(1), 1);
        due(o.told(15), 654583775);
        due(o.at(0, 0), 0);
        due(o.at(0, 1), 21468 % 32);
        due(o.at(0, 2), 988);
        due(o.told(14), 1);
        due(o.drift(9), 10);
        due(o.told(14), 10);
        int seed = o.told(15);
        due(o.drift(10), 10);
        due(o.told(15), seed);
        due(o.told(14), 10);
        // Room for one: one turn of three draws, whatever n is.
        o.take(0);
        due(o.drift(10), 10);
        long s = seed;
        for (int k = 0; k < 3; k++) s = (s * 1103515245L + 12345L) % 2147483648L;
        due(o.told(15), s);
        due(o.at(9, 2), s / 65536 % 1000);
    }

    private static void driftMeetsSamples() {
        promise(18);
        OreBlocks o = new OreBlocks();
        o.drift(1);
        int seed = o.told(15);
        o.seed(0);
        due(o.drift(1), 1);
        due(o.told(15), seed);
        due(o.told(14), 1);
        due(o.at(0, 2), 988);
        o.grade(0, 1);
        o.seed(0);
        due(o.drift(2), 2);
        due(o.at(0, 2), 1);
        due(o.told(14), 3);
    }

    private static void undo() {
        promise(19);
        OreBlocks o = Grounds.three();
        o.take(1);
        o.grade(0, 7);
        o.pieces(9, 9, 9, 9, 9);
        o.search(1, 1, 1);
        o.metric(1);
        due(o.undo(9), NOT);
        due(o.undo(0), OUTSIDE);
        due(o.undo(17), OUTSIDE);
        due(o.undo(LEAST), OUTSIDE);
        due(o.undo(1), 7);
        due(o.told(1), 0);
        due(o.undo(1), 6);
        dueTold(o, 2, 0, 9, 9, 9, 9, 9, 4, 4, 62);
        due(o.undo(2), 4);
        dueTold(o, 2, 0, 0, 2, 5, 1, 12, 4, 4, 62);
        due(o.at(0, 2), 100);
        due(o.undo(1), 3);
        due(o.at(1, 2), 200);
        due(o.at(2, 2), 300);
        due(o.undo(3), 0);
        due(o.told(0), 0);
        due(o.undo(1), NOT);
        due(o.undo(16), NOT);
    }

    private static void undoOfSixteen() {
        promise(19);
        OreBlocks o = Grounds.three();
        for (int g = 1; g <= 20; g++) o.grade(0, g);
        due(o.told(14), 16);
        due(o.undo(16), 0);
        due(o.at(0, 2), 4);
        due(o.undo(1), NOT);
        o.grade(0, 50);
        due(o.told(14), 1);
        due(o.undo(1), 0);
        due(o.at(0, 2), 4);
        // Deeds refused are not kept.
        o.grade(0, 1000);
        o.take(5);
        o.sample(10, 10, 1);
        o.metric(2);
        due(o.told(14), 0);
    }

    private static void undoKeepsSeedAndBook() {
        promise(19);
        OreBlocks o = new OreBlocks();
        o.drift(3);
        int seed = o.told(15);
        o.write(1, 1, 1);
        due(o.undo(2), 1);
        due(o.told(0), 1);
        due(o.told(15), seed);
        due(o.told(12), 1);
        // Seeds, entries and drifts that bring nothing are no deeds.
        o.seed(5);
        o.tear();
        due(o.told(14), 1);
    }

    private static void write() {
        promise(20);
        OreBlocks o = new OreBlocks();
        due(o.write(0, 0, NONE), 1);
        due(o.write(31, 31, GREATEST), 2);
        due(o.write(0, 31, LEAST), 3);
        due(o.write(-1, 0, 0), OUTSIDE);
        due(o.write(32, 0, 0), OUTSIDE);
        due(o.write(0, -1, 0), OUTSIDE);
        due(o.write(0, 32, 0), OUTSIDE);
        due(o.told(12), 3);
        for (int n = 4; n <= 20; n++) due(o.write(1, 1, n), n);
        due(o.write(1, 1, 1), FULL);
        due(o.write(32, 1, 1), OUTSIDE);
        due(o.told(12), 20);
        due(o.told(14), 0);
    }

    private static void wrongEntries() {
        promise(2);
        OreBlocks o = Grounds.three();
        o.write(11, 11, 216);
        due(o.told(13), NONE);
        o.write(10, 10, 100);
        o.write(10, 13, 300);
        due(o.told(13), NONE);
        o.write(12, 10, 201);
        o.write(12, 10, 202);
        due(o.told(13), 3);
        // With 201 there the first is 217 and a sixth.
        due(o.grade(1, 201), 200);
        due(o.told(13), 0);
        o.undo(1);
        due(o.told(13), 3);
        o.tear();
        o.search(4, 4, 1);
        o.write(30, 30, NONE);
        due(o.told(13), NONE);
        o.write(30, 30, 0);
        due(o.told(13), 1);
        // Below nothing it is cut towards 0 too: -2000 by 143 is -13 and some.
        OreBlocks p = new OreBlocks();
        p.sample(10, 10, 0);
        p.sample(10, 13, 0);
        p.sample(7, 10, 500);
        due(p.guess(10, 11, 0), -2000);
        due(p.guess(10, 11, 1), 143);
        p.write(10, 11, -13);
        due(p.told(13), NONE);
        p.write(10, 11, -14);
        due(p.told(13), 1);
    }

    private static void tear() {
        promise(21);
        OreBlocks o = new OreBlocks();
        due(o.tear(), 0);
        o.write(0, 0, 5);
        o.write(0, 0, 6);
        due(o.tear(), 2);
        due(o.told(12), 0);
        due(o.told(13), NONE);
        due(o.tear(), 0);
        due(o.write(0, 0, NONE), 1);
        due(o.told(13), NONE);
    }

    private static void seed() {
        promise(22);
        OreBlocks o = new OreBlocks();
        due(o.seed(GREATEST), 0);
        due(o.seed(-1), OUTSIDE);
        due(o.seed(LEAST), OUTSIDE);
        due(o.told(15), GREATEST);
        due(o.drift(1), 1);
        long s = GREATEST;
        for (int k = 0; k < 3; k++) s = (s * 1103515245L + 12345L) % 2147483648L;
        due(o.told(15), s);
        due(o.seed(0), s);
        due(o.seed(6), 0);
    }

    private static void keep() {
        promise(23);
        OreBlocks o = Grounds.three();
        due(o.keep(2), UNKNOWN);
        due(o.keep(-1), UNKNOWN);
        due(o.keep(LEAST), UNKNOWN);
        due(o.told(14), 3);
        due(o.keep(1), 1);
        due(o.told(14), 0);
        due(o.undo(1), NOT);
        due(o.goBack(0), NOT);
        o.take(0);
        due(o.told(14), 1);
        due(o.undo(1), 0);
        due(o.told(0), 3);
        // Kept anew, the former is gone.
        o.take(0);
        due(o.keep(1), 1);
        o.take(0);
        o.goBack(1);
        due(o.told(0), 2);
    }

    private static void goBack() {
        promise(24);
        OreBlocks o = Grounds.three();
        due(o.goBack(0), NOT);
        due(o.goBack(2), UNKNOWN);
        due(o.goBack(-1), UNKNOWN);
        due(o.goBack(GREATEST), UNKNOWN);
        due(o.told(14), 3);
        o.seed(11);
        o.write(1, 1, 1);
        o.keep(0);
        o.take(1);
        o.grade(0, 9);
        o.pieces(1, 1, 1, 1, 1);
        o.search(1, 1, 1);
        o.metric(1);
        o.seed(12);
        o.write(1, 1, 2);
        o.keep(1);
        o.sample(0, 0, 0);
        due(o.goBack(0), 1);
        dueTold(o, 3, 0, 0, 2, 5, 1, 12, 4, 4, 62);
        due(o.at(0, 2), 100);
        due(o.at(1, 2), 200);
        due(o.told(12), 2);
        due(o.told(14), 0);
        due(o.told(15), 11);
        due(o.goBack(1), 1);
        dueTold(o, 2, 1, 1, 1, 1, 1, 1, 1, 1, 1);
        due(o.told(15), 12);
        // What is done after going back leaves the image as it was.
        o.take(0);
        o.take(0);
        due(o.goBack(1), 1);
        due(o.told(0), 2);
        due(o.at(0, 2), 9);
    }

    private static void refusalsChangeNothing() {
        promise(0);
        OreBlocks o = Grounds.ten();
        o.keep(0);
        o.write(3, 3, 3);
        o.grade(2, 5);
        int[] before = new int[16];
        for (int what = 0; what < 16; what++) before[what] = o.told(what);
        o.sample(1, 1, 1);
        o.sample(40, 1, 1);
        o.take(10);
        o.grade(0, -1);
        o.pieces(0, 1, 5, 2, 9);
        o.search(0, 0, 0);
        o.metric(3);
        o.drift(0);
        o.undo(2);
        o.write(0, 40, 1);
        o.seed(-9);
        o.keep(2);
        o.goBack(1);
        for (int what = 0; what < 16; what++) due(o.told(what), before[what]);
        for (int i = 0; i < 10; i++) due(o.at(i, 2), i == 2 ? 5 : 10 * i);
    }
}
