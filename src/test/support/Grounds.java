import java.util.ArrayList;
import java.util.List;

/** Objects to begin tests with, and all that can be asked of one. */
final class Grounds {
    private Grounds() { }

    /** Samples 0 at 10, 10 (100), 1 at 12, 10 (200), 2 at 10, 13 (300). */
    static OreBlocks three() {
        OreBlocks o = new OreBlocks();
        o.sample(10, 10, 100);
        o.sample(12, 10, 200);
        o.sample(10, 13, 300);
        return o;
    }

    /** Ten samples in a row of y 0, x 0, 3, .. 27, the grade ten times the number. */
    static OreBlocks ten() {
        OreBlocks o = new OreBlocks();
        for (int i = 0; i < 10; i++) o.sample(3 * i, 0, 10 * i);
        return o;
    }

    /** One sample. */
    static OreBlocks one(int x, int y, int g) {
        OreBlocks o = new OreBlocks();
        o.sample(x, y, g);
        return o;
    }

    /** The corners of a square of side 2: by sums and one straight piece they have no guess. */
    static OreBlocks square() {
        OreBlocks o = new OreBlocks();
        o.sample(4, 4, 10);
        o.sample(4, 6, 20);
        o.sample(6, 4, 30);
        o.sample(6, 6, 40);
        return o;
    }

    /**
     * Seen from 10, 11 the third stands behind the first: the weights are 99, 48 and -4 by 143,
     * so that grades 0, 0, g make a guess of -4 g by 143.
     */
    static OreBlocks behind(int g0, int g1, int g2) {
        OreBlocks o = new OreBlocks();
        o.sample(10, 10, g0);
        o.sample(10, 13, g1);
        o.sample(7, 10, g2);
        return o;
    }

    /**
     * Seen from 7, 9 the nearest, number 0, is hidden by the others: with 5 by step the weights of
     * 0, 2, 3 and 1 are -1, 6, 7 and 2 by 14.
     */
    static OreBlocks hidden() {
        OreBlocks o = new OreBlocks();
        o.metric(1);
        o.pieces(0, 5, 6, 3, 16);
        o.sample(7, 8, 14);
        o.sample(5, 10, 140);
        o.sample(6, 8, 280);
        o.sample(8, 9, 420);
        return o;
    }

    /** Ten samples, a book of twenty, image 0 kept but not image 1, two deeds since, a seed. */
    static OreBlocks brimful() {
        OreBlocks o = ten();
        o.seed(77);
        o.keep(0);
        for (int n = 0; n < 20; n++) o.write(n, 3, n);
        o.grade(9, 5);
        o.pieces(1, 3, 4, 2, 9);
        o.seed(99);
        return o;
    }

    /** Section 1, the book and the seed, as far as they can be asked for without a deed. */
    static List<Long> state(OreBlocks o) {
        List<Long> all = new ArrayList<>();
        for (int what = 0; what < 16; what++) all.add((long) o.told(what));
        for (int i = 0; i < 10; i++) for (int what = 0; what < 3; what++) all.add((long) o.at(i, what));
        for (int xy = 0; xy < 32; xy++) all.add(o.guess(xy, xy, 0));
        return all;
    }

    /** As state, and what undoing and going back come to; the object is used up by this. */
    static List<Long> stateToTheEnd(OreBlocks o) {
        List<Long> all = new ArrayList<>(state(o));
        for (int n = o.told(14); n > 0; n--) {
            all.add((long) o.undo(1));
            all.addAll(state(o));
        }
        for (int i = 0; i < 2; i++) {
            all.add((long) o.goBack(i));
            all.addAll(state(o));
        }
        return all;
    }
}
