import java.math.BigInteger;
import java.util.ArrayList;
import java.util.List;
import java.util.function.ToLongFunction;

/** The edges that the document's terms name, ahead of its promises: a test for each sentence. */
public final class OreBlocksTermEdges extends Sentences {
    public static void main(String[] args) throws Exception {
        run(OreBlocksTermEdges.class, 0, 0);
    }

    // ---- what it is, numbers and refusals

    @Sentence("An object is used for at most 512 calls after it has been made")
    static void theLastOf512CallsIsAnswered() {
        OreBlocks o = new OreBlocks();
        o.sample(0, 0, 0);
        for (int g = 1; g <= 508; g++) due(o.grade(0, g), g - 1);
        due(o.told(14), 16);
        due(o.undo(16), 0);
        due(o.at(0, 2), 492);
    }

    @Sentence("An object is used for at most 512 calls after it has been made")
    static void dearCallsAreAnsweredToTheLast() {
        OreBlocks o = Grounds.ten();
        // All places there are out of range, so all are alike.
        for (int call = 11; call <= 512; call++) due(o.hole(0, 24, 7, 31), 2400);
    }

    @Sentence("FRACTIONS have an ABOVE and a BELOW, in lowest terms, BELOW 1 at least")
    static void fractionsAreInLowestTerms() {
        OreBlocks o = new OreBlocks();
        o.sample(10, 10, 100);
        o.sample(13, 10, 301);
        due(o.weight(11, 10, 0, 0), 2);
        due(o.weight(11, 10, 0, 1), 3);
        // 2/3 of 100 and 1/3 of 301.
        due(o.guess(11, 10, 0), 167);
        due(o.guess(11, 10, 1), 1);
    }

    @Sentence("FRACTIONS have an ABOVE and a BELOW, in lowest terms, BELOW 1 at least")
    static void belowStaysAbove0WhereAFractionIsBelow0() {
        OreBlocks o = Grounds.behind(0, 0, 500);
        dueEach(what -> o.weight(10, 11, 2, what), -4, 143);
        dueEach(what -> o.guess(10, 11, what), -2000, 143);
        OreBlocks four = Grounds.square();
        four.metric(1);
        four.pieces(0, 1, 2, 0, 2);
        dueEach(what -> four.guess(5, 5, 4 + what), -1, 2);
        OreBlocks two = new OreBlocks();
        two.sample(10, 10, 100);
        two.sample(13, 10, 300);
        two.sample(11, 10, 170);
        dueEach(what -> two.error(2, what), -10, 3);
    }

    @Sentence("(0 is 0 by 1)")
    static void zeroIsByOne() {
        OreBlocks o = new OreBlocks();
        o.sample(5, 5, 0);
        o.sample(6, 5, 0);
        o.sample(5, 6, 0);
        dueEach(what -> o.weight(5, 5, 1, what), 0, 1);
        dueEach(what -> o.guess(5, 5, what), 0, 1, 0, 1, 0, 1);
        dueEach(what -> o.error(0, what), 0, 1);
        // Half of each of two corners of the block stands for all four: as sure as can be.
        dueEach(what -> o.block(5, 5, what), 0, 1, 0, 1);
    }

    @Sentence("What has a number has it from 0 on.")
    static void numbersBeginWith0() {
        OreBlocks o = new OreBlocks();
        due(o.sample(3, 4, 5), 0);
        due(o.at(0, 2), 5);
        due(o.looked(0, 0, 0), 0);
        due(o.weight(0, 0, 0, 0), 1);
        due(o.error(0, 0), NOTHING);
        o.write(3, 4, 6);
        due(o.told(13), 0);
        due(o.keep(0), 1);
        due(o.take(0), 0);
    }

    @Sentence("A SET is a whole number, bit k for k.")
    static void setsHaveABitForEachNumber() {
        OreBlocks o = Grounds.ten();
        due(o.place(0, 0, 2), 1 + 2 + 4 + 8);
        due(o.place(27, 0, 2), 64 + 128 + 256 + 512);
        o.search(1, 4, 62);
        due(o.place(0, 31, 2), 1);
        due(o.place(27, 31, 2), 512);
        due(new OreBlocks().place(0, 0, 2), 0);
    }

    @Sentence("A SET is a whole number, bit k for k.")
    static void setsAreOfNumbersNotOfTheOrderLookedAt() {
        OreBlocks o = new OreBlocks();
        for (int i = 0; i < 7; i++) o.sample(4 * i, 31, 0);
        o.sample(10, 13, 0);
        o.sample(10, 10, 0);
        o.sample(7, 10, 0);
        o.search(4, 4, 5);
        due(o.looked(10, 11, 0), 8);
        due(o.place(10, 11, 2), 128 + 256 + 512);
        due(o.place(10, 11, 5), 512);
    }

    @Sentence("NONE is -1.")
    static void noneIsMinusOne() {
        due(OreBlocks.NONE, -1);
        OreBlocks o = new OreBlocks();
        due(o.place(0, 0, 0), -1);
        due(o.looked(0, 0, 0), -1);
        due(o.hole(0, 0, 7, 7), -1);
        due(o.told(11), -1);
        due(o.told(13), -1);
    }

    @Sentence("REFUSALS, of several the first in this order: UNKNOWN (a SAMPLE, IMAGE that there is not), OUTSIDE")
    static void unknownComesAheadOfOutside() {
        OreBlocks o = Grounds.three();
        due(o.at(3, 3), UNKNOWN);
        due(o.at(-1, -1), UNKNOWN);
        due(o.grade(3, 1000), UNKNOWN);
        due(o.grade(-1, -1), UNKNOWN);
        due(o.error(3, 2), NOBODY);
        due(o.error(-1, -1), NOBODY);
    }

    @Sentence("REFUSALS, of several the first in this order: UNKNOWN (a SAMPLE, IMAGE that there is not), OUTSIDE")
    static void unknownComesAheadOfNot() {
        OreBlocks o = new OreBlocks();
        due(o.goBack(2), UNKNOWN);
        due(o.goBack(-1), UNKNOWN);
    }

    @Sentence("OUTSIDE (another number out of its bounds), NOT (not now, as told), FULL.")
    static void outsideComesAheadOfNot() {
        OreBlocks o = Grounds.three();
        due(o.sample(10, 10, 1000), OUTSIDE);
        due(o.sample(10, 10, -1), OUTSIDE);
        due(o.undo(17), OUTSIDE);
        due(new OreBlocks().undo(0), OUTSIDE);
    }

    @Sentence("OUTSIDE (another number out of its bounds), NOT (not now, as told), FULL.")
    static void outsideComesAheadOfFull() {
        OreBlocks o = Grounds.brimful();
        due(o.sample(32, 0, 0), OUTSIDE);
        due(o.sample(0, -1, 0), OUTSIDE);
        due(o.sample(1, 1, 1000), OUTSIDE);
        due(o.write(32, 0, 0), OUTSIDE);
        due(o.write(0, -1, 0), OUTSIDE);
        due(o.sample(1, 1, 1), FULL);
        due(o.write(1, 1, 1), FULL);
    }

    @Sentence("They are far below all that is counted: -4000000000000000001 and on for what tells longs, -1000000001 and on for all else (likewise numbered).")
    static void refusalsAreNumbered() {
        due(OreBlocks.UNKNOWN, -1000000001);
        due(OreBlocks.OUTSIDE, -1000000002);
        due(OreBlocks.NOT, -1000000003);
        due(OreBlocks.FULL, -1000000004);
        due(OreBlocks.NOTHING, -4000000000000000000L);
        due(OreBlocks.NOBODY, -4000000000000000001L);
        due(OreBlocks.BEYOND, -4000000000000000002L);
    }

    @Sentence("What is refused changes nothing.")
    static void whatIsRefusedOfAFullObjectChangesNothing() {
        dueNothingChanged(refusalsOfAll(), true);
        List<ToLongFunction<OreBlocks>> calls = new ArrayList<>();
        calls.add(o -> o.sample(1, 1, 1));
        calls.add(o -> o.sample(0, 0, 1));
        calls.add(o -> o.take(10));
        calls.add(o -> o.grade(10, 1));
        calls.add(o -> o.undo(3));
        calls.add(o -> o.write(0, 0, 0));
        dueNothingChanged(calls, true);
    }

    @Sentence("What is refused changes nothing.")
    static void whatIsRefusedOfAnObjectWithRoomChangesNothing() {
        dueNothingChanged(refusalsOfAll(), false);
        List<ToLongFunction<OreBlocks>> calls = new ArrayList<>();
        calls.add(o -> o.sample(10, 10, 1));
        calls.add(o -> o.take(3));
        calls.add(o -> o.grade(3, 1));
        calls.add(o -> o.undo(4));
        calls.add(o -> o.goBack(0));
        dueNothingChanged(calls, false);
    }

    private static List<ToLongFunction<OreBlocks>> refusalsOfAll() {
        List<ToLongFunction<OreBlocks>> calls = new ArrayList<>();
        calls.add(o -> o.sample(32, 0, 0));
        calls.add(o -> o.sample(0, -1, 0));
        calls.add(o -> o.sample(1, 1, 1000));
        calls.add(o -> o.take(-1));
        calls.add(o -> o.grade(-1, 1));
        calls.add(o -> o.grade(0, 1000));
        calls.add(o -> o.pieces(10, 1, 1, 1, 1));
        calls.add(o -> o.pieces(1, 10, 1, 1, 1));
        calls.add(o -> o.pieces(1, 1, 11, 1, 11));
        calls.add(o -> o.pieces(1, 1, 1, 2, 1));
        calls.add(o -> o.pieces(1, 1, 1, 1, 21));
        calls.add(o -> o.search(5, 1, 1));
        calls.add(o -> o.search(1, 5, 1));
        calls.add(o -> o.search(1, 1, 63));
        calls.add(o -> o.metric(2));
        calls.add(o -> o.drift(0));
        calls.add(o -> o.drift(11));
        calls.add(o -> o.undo(0));
        calls.add(o -> o.undo(17));
        calls.add(o -> o.undo(16));
        calls.add(o -> o.write(32, 0, 0));
        calls.add(o -> o.write(0, 32, 0));
        calls.add(o -> o.seed(-1));
        calls.add(o -> o.keep(2));
        calls.add(o -> o.goBack(2));
        calls.add(o -> o.goBack(1));
        calls.add(o -> o.told(16));
        calls.add(o -> o.at(0, 3));
        calls.add(o -> o.unlike(63));
        calls.add(o -> o.place(0, 32, 3));
        calls.add(o -> o.looked(0, 0, 4));
        calls.add(o -> o.guess(32, 0, 0));
        calls.add(o -> o.weight(0, 0, 0, 2));
        calls.add(o -> o.block(31, 0, 0));
        calls.add(o -> o.error(0, 2));
        calls.add(o -> o.hole(0, 0, 8, 0));
        return calls;
    }

    /** Each call is made on an object of its own, which then goes to its end as one without it. */
    private static void dueNothingChanged(List<ToLongFunction<OreBlocks>> calls, boolean full) {
        List<Long> want = Grounds.stateToTheEnd(full ? Grounds.brimful() : Grounds.three());
        for (int i = 0; i < calls.size(); i++) {
            OreBlocks o = full ? Grounds.brimful() : Grounds.three();
            due(isRefused(calls.get(i).applyAsLong(o)) ? i : -1, i);
            due(Grounds.stateToTheEnd(o).equals(want) ? i : -1, i);
        }
    }

    // ---- section 1: samples

    @Sentence("SAMPLES (10 at most, none at first)")
    static void thereAreNoSamplesAtFirst() {
        OreBlocks o = new OreBlocks();
        due(o.told(0), 0);
        due(o.at(0, 0), UNKNOWN);
        due(o.take(0), UNKNOWN);
        due(o.grade(0, 0), UNKNOWN);
        due(o.error(0, 0), NOBODY);
    }

    @Sentence("SAMPLES (10 at most, none at first)")
    static void thereAreTenSamplesAtMost() {
        OreBlocks o = new OreBlocks();
        for (int i = 0; i < 10; i++) due(o.sample(i, i, i), i);
        due(o.sample(20, 20, 20), FULL);
        due(o.told(0), 10);
        due(o.drift(10), 10);
        due(o.take(9), 9);
        due(o.sample(20, 20, 20), 9);
        due(o.sample(21, 21, 21), FULL);
    }

    @Sentence("each at a PLACE x, y (0 .. 31 each)")
    static void samplesStandAtTheCorners() {
        OreBlocks o = new OreBlocks();
        due(o.sample(0, 0, 1), 0);
        due(o.sample(31, 0, 2), 1);
        due(o.sample(0, 31, 3), 2);
        due(o.sample(31, 31, 4), 3);
        due(o.place(31, 0, 0), 1);
        due(o.place(0, 31, 0), 2);
        due(o.guess(31, 31, 0), 4);
    }

    @Sentence("each at a PLACE x, y (0 .. 31 each)")
    static void noPlaceIsOutOf0To31() {
        OreBlocks o = Grounds.three();
        dueBounds(x -> new OreBlocks().sample(x, 7, 7), 0, 31, OUTSIDE);
        dueBounds(y -> new OreBlocks().sample(7, y, 7), 0, 31, OUTSIDE);
        dueBounds(x -> o.place(x, 7, 1), 0, 31, OUTSIDE);
        dueBounds(y -> o.place(7, y, 1), 0, 31, OUTSIDE);
        dueBounds(x -> o.write(x, 7, 1), 0, 31, OUTSIDE);
        dueBounds(y -> o.write(7, y, 1), 0, 31, OUTSIDE);
    }

    @Sentence("no two at one")
    static void noTwoSamplesStandAtOnePlace() {
        OreBlocks o = Grounds.three();
        due(o.sample(12, 10, 5), NOT);
        due(o.told(0), 3);
        due(o.at(1, 2), 200);
        // One that differs in x or in y alone may come; and one may come where one went.
        due(o.sample(12, 13, 5), 3);
        due(o.take(1), 3);
        due(o.sample(12, 10, 6), 3);
    }

    @Sentence("with a GRADE (0 .. 999)")
    static void gradesAreOf0To999() {
        dueBounds(g -> new OreBlocks().sample(7, 7, g), 0, 999, OUTSIDE);
        OreBlocks o = Grounds.three();
        dueBounds(g -> o.grade(1, g), 0, 999, OUTSIDE);
        OreBlocks p = new OreBlocks();
        p.sample(0, 0, 0);
        p.sample(31, 31, 999);
        due(p.at(0, 2), 0);
        due(p.at(1, 2), 999);
    }

    @Sentence("numbered as they came; if one goes, later ones have one number less")
    static void theFirstOfTenGoes() {
        OreBlocks o = Grounds.ten();
        due(o.take(0), 9);
        for (int i = 0; i < 9; i++) {
            due(o.at(i, 0), 3 * i + 3);
            due(o.at(i, 2), 10 * i + 10);
            due(o.place(3 * i + 3, 0, 0), i);
        }
        due(o.at(9, 0), UNKNOWN);
        due(o.place(0, 0, 0), NONE);
    }

    @Sentence("numbered as they came; if one goes, later ones have one number less")
    static void theLastOfTenGoes() {
        OreBlocks o = Grounds.ten();
        due(o.take(9), 9);
        for (int i = 0; i < 9; i++) due(o.at(i, 0), 3 * i);
        due(o.at(9, 0), UNKNOWN);
        due(o.place(27, 0, 0), NONE);
        // Who comes again comes last.
        due(o.take(0), 8);
        due(o.sample(0, 0, 1), 8);
        due(o.at(8, 0), 0);
    }

    @Sentence("METRIC (0 at first): of two PLACES FAR is 0 the sum, 1 the greater of how far they are apart in x and in y.")
    static void fromCornerToCornerIs62Or31() {
        OreBlocks o = Grounds.one(0, 31, 5);
        o.search(4, 4, 61);
        due(o.place(31, 0, 1), 0);
        o.search(4, 4, 62);
        due(o.place(31, 0, 1), 1);
        o.metric(1);
        o.search(4, 4, 31);
        due(o.place(31, 0, 1), 1);
        o.search(4, 4, 30);
        due(o.place(31, 0, 1), 0);
    }

    @Sentence("METRIC (0 at first): of two PLACES FAR is 0 the sum, 1 the greater of how far they are apart in x and in y.")
    static void theGreaterMayBeXOrYOrBoth() {
        OreBlocks o = Grounds.one(10, 10, 5);
        o.pieces(0, 1, 10, 1, 20);
        due(o.guess(13, 6, 4), 7);
        due(o.guess(10, 10, 4), 0);
        o.metric(1);
        due(o.guess(13, 6, 4), 4);
        due(o.guess(6, 13, 4), 4);
        due(o.guess(7, 7, 4), 3);
        due(o.guess(10, 10, 4), 0);
    }

    // ---- section 1: pieces

    @Sentence("PIECES: NUGGET (0 .. 9), STEEP (1 .. 9), KNOT (1 .. 10)")
    static void nuggetSteepAndKnotHaveBounds() {
        OreBlocks o = new OreBlocks();
        dueBounds(v -> o.pieces(v, 4, 6, 2, 12), 0, 9, OUTSIDE);
        dueBounds(v -> o.pieces(3, v, 6, 1, 12), 1, 9, OUTSIDE);
        dueBounds(v -> o.pieces(3, 4, v, 2, 12), 1, 10, OUTSIDE);
        due(o.pieces(3, 0, 6, 0, 12), OUTSIDE);
        due(o.pieces(3, 4, 0, 2, 0), OUTSIDE);
    }

    @Sentence("FLAT (0 .. STEEP)")
    static void flatIsNoMoreThanSteep() {
        OreBlocks o = new OreBlocks();
        dueBounds(v -> o.pieces(3, 1, 6, v, 12), 0, 1, OUTSIDE);
        dueBounds(v -> o.pieces(3, 4, 6, v, 12), 0, 4, OUTSIDE);
        dueBounds(v -> o.pieces(3, 9, 6, v, 12), 0, 9, OUTSIDE);
        // Steep as it was does not count, but as it is told.
        o.pieces(0, 9, 5, 9, 12);
        due(o.pieces(0, 3, 5, 4, 12), OUTSIDE);
    }

    @Sentence("RANGE (KNOT .. 20)")
    static void rangeIsNoLessThanKnot() {
        OreBlocks o = new OreBlocks();
        dueBounds(v -> o.pieces(3, 4, 1, 2, v), 1, 20, OUTSIDE);
        dueBounds(v -> o.pieces(3, 4, 6, 2, v), 6, 20, OUTSIDE);
        dueBounds(v -> o.pieces(3, 4, 10, 2, v), 10, 20, OUTSIDE);
    }

    @Sentence("0, 2, 5, 1, 12 at first.")
    static void thePiecesAtFirst() {
        OreBlocks o = new OreBlocks();
        dueEach(what -> o.told(2 + what), 0, 2, 5, 1, 12);
    }

    @Sentence("UNLIKE of h: 0, if h is 0; else NUGGET")
    static void atNoDistanceThereIsNoNugget() {
        OreBlocks o = new OreBlocks();
        o.pieces(9, 1, 1, 0, 1);
        due(o.unlike(0), 0);
        due(o.unlike(1), 10);
        due(o.unlike(62), 10);
    }

    @Sentence("and STEEP times h or KNOT, whichever is less")
    static void theSteepPieceEndsAtTheKnot() {
        OreBlocks o = new OreBlocks();
        o.pieces(0, 3, 4, 0, 20);
        dueEach(o::unlike, 0, 3, 6, 9, 12, 12, 12);
        o.pieces(0, 3, 1, 0, 20);
        dueEach(o::unlike, 0, 3, 3, 3);
        o.pieces(0, 9, 10, 0, 10);
        dueEach(h -> o.unlike(9 + h), 81, 90, 90);
    }

    @Sentence("and, if h is more than KNOT, FLAT times (h or RANGE, whichever is less, less KNOT)")
    static void theFlatPieceGoesFromKnotToRange() {
        OreBlocks o = new OreBlocks();
        o.pieces(1, 3, 4, 2, 7);
        dueEach(h -> o.unlike(3 + h), 10, 13, 15, 17, 19, 19, 19);
        due(o.unlike(62), 19);
        o.pieces(9, 9, 10, 9, 20);
        dueEach(h -> o.unlike(19 + h), 180, 189, 189);
    }

    @Sentence("and, if h is more than KNOT, FLAT times (h or RANGE, whichever is less, less KNOT)")
    static void thereIsNoFlatPieceWhereRangeIsKnot() {
        OreBlocks o = new OreBlocks();
        o.pieces(1, 3, 4, 3, 4);
        dueEach(h -> o.unlike(3 + h), 10, 13, 13, 13);
        due(o.unlike(62), 13);
    }

    // ---- section 1: search

    @Sentence("SEARCH: MOST (1 .. 4; 4 at first)")
    static void mostIsOf1To4() {
        OreBlocks o = Grounds.ten();
        due(o.told(7), 4);
        due(o.place(0, 0, 1), 4);
        dueBounds(v -> o.search(v, 2, 30), 1, 4, OUTSIDE);
        for (int most = 1; most <= 4; most++) {
            o.search(most, 4, 62);
            due(o.place(0, 0, 1), most);
        }
    }

    @Sentence("IN A QUARTER (1 .. 4; 4)")
    static void inAQuarterIsOf1To4() {
        OreBlocks o = Grounds.ten();
        due(o.told(8), 4);
        dueBounds(v -> o.search(2, v, 30), 1, 4, OUTSIDE);
        for (int quarter = 1; quarter <= 4; quarter++) {
            o.search(4, quarter, 62);
            due(o.place(0, 0, 1), quarter);
        }
    }

    @Sentence("REACH (1 .. 62; 62)")
    static void reachIsOf1To62() {
        OreBlocks o = Grounds.one(10, 10, 5);
        due(o.told(9), 62);
        dueBounds(v -> o.search(2, 2, v), 1, 62, OUTSIDE);
        o.search(4, 4, 1);
        due(o.place(10, 10, 1), 1);
        due(o.place(11, 10, 1), 1);
        due(o.place(12, 10, 1), 0);
        due(o.place(11, 11, 1), 0);
    }

    @Sentence("QUARTER of a SAMPLE, seen from a PLACE: 0, if it is no less in x, nor in y")
    static void quarter0HasThePlaceAndBothItsSides() {
        dueInQuarter(10, 10, 0);
        dueInQuarter(15, 10, 0);
        dueInQuarter(10, 15, 0);
        dueInQuarter(15, 15, 0);
    }

    @Sentence("1, if it is less in x, no less in y")
    static void quarter1HasWhatIsLessInXAndAlikeInY() {
        dueInQuarter(5, 10, 1);
        dueInQuarter(9, 15, 1);
        dueInQuarter(5, 15, 1);
    }

    @Sentence("2, if it is less in both")
    static void quarter2HasWhatIsLessInBoth() {
        dueInQuarter(9, 5, 2);
        dueInQuarter(5, 9, 2);
        dueInQuarter(5, 5, 2);
    }

    @Sentence("3, if it is no less in x, less in y")
    static void quarter3HasWhatIsAlikeInXAndLessInY() {
        dueInQuarter(10, 5, 3);
        dueInQuarter(15, 9, 3);
        dueInQuarter(15, 5, 3);
    }

    /** Seen from 10, 10, with one in a quarter, it stands in the way of one quarter's next alone. */
    private static void dueInQuarter(int x, int y, int want) {
        int[][] next = {{11, 11}, {9, 11}, {9, 9}, {11, 9}};
        for (int quarter = 0; quarter < 4; quarter++) {
            OreBlocks o = new OreBlocks();
            o.search(4, 1, 62);
            o.sample(x, y, 1);
            o.sample(next[quarter][0], next[quarter][1], 2);
            due(o.place(10, 10, 1), quarter == want ? 1 : 2);
        }
    }

    @Sentence("LOOKED AT from a PLACE: SAMPLES that are FAR no more than REACH")
    static void asFarAsReachIsLookedAtAndOneMoreIsNot() {
        OreBlocks o = Grounds.one(10, 10, 5);
        o.search(4, 4, 7);
        due(o.place(13, 14, 1), 1);
        due(o.place(13, 15, 1), 0);
        due(o.place(14, 14, 1), 0);
        o.metric(1);
        due(o.place(17, 3, 1), 1);
        due(o.place(18, 10, 1), 0);
        due(o.place(10, 2, 1), 0);
    }

    @Sentence("the least FAR first, of like ones the least number first")
    static void ofLikeOnesTheLeastNumberIsFirst() {
        OreBlocks o = new OreBlocks();
        o.sample(8, 10, 0);
        o.sample(10, 12, 0);
        o.sample(12, 10, 0);
        o.sample(10, 8, 0);
        o.sample(11, 11, 0);
        o.sample(10, 11, 0);
        dueEach(i -> o.looked(10, 10, i), 5, 0, 1, 2);
        // The numbers that count are those of now.
        o.take(0);
        dueEach(i -> o.looked(10, 10, i), 4, 0, 1, 2);
        due(o.sample(8, 10, 0), 5);
        dueEach(i -> o.looked(10, 10, i), 4, 0, 1, 2);
    }

    @Sentence("each is taken, if fewer than MOST are taken so far")
    static void theFifthIsNotTaken() {
        OreBlocks o = new OreBlocks();
        for (int i = 0; i < 5; i++) o.sample(10 + i, 10, 0);
        due(o.place(10, 10, 2), 1 + 2 + 4 + 8);
        due(o.place(14, 10, 2), 2 + 4 + 8 + 16);
        o.search(1, 4, 62);
        due(o.place(14, 10, 2), 16);
    }

    @Sentence("and fewer than IN A QUARTER of its QUARTER")
    static void whoIsPassedInAFullQuarterTakesNoRoom() {
        OreBlocks o = new OreBlocks();
        for (int i = 0; i < 6; i++) o.sample(11 + i, 10, 0);
        o.sample(2, 10, 0);
        o.sample(2, 2, 0);
        o.sample(10, 0, 0);
        o.search(4, 1, 62);
        dueEach(i -> o.looked(10, 10, i), 0, 6, 8, 7);
        o.search(2, 1, 62);
        dueEach(i -> o.looked(10, 10, i), 0, 6, NONE, NONE);
        o.search(4, 3, 62);
        dueEach(i -> o.looked(10, 10, i), 0, 1, 2, 6);
    }

    // ---- section 2: guesses

    @Sentence("all WEIGHTS together are 1")
    static void oneAloneHasAllTheWeight() {
        OreBlocks o = Grounds.one(31, 31, 999);
        dueEach(what -> o.weight(0, 0, 0, what), 1, 1);
        dueEach(what -> o.weight(31, 31, 0, what), 1, 1);
        dueEach(what -> o.guess(0, 0, what), 999, 1, 34, 1, 17, 1);
    }

    @Sentence("for each SAMPLE i the sum of all WEIGHTS j times UNLIKE of (FAR of i and j), and the FLOOR, is UNLIKE of (FAR of i and the PLACE).")
    static void fourHaveFourWeights() {
        OreBlocks o = Grounds.hidden();
        dueEach(i -> o.looked(7, 9, i), 0, 2, 3, 1);
        dueEach(i -> o.weight(7, 9, i, 0), -1, 3, 1, 1);
        dueEach(i -> o.weight(7, 9, i, 1), 14, 7, 2, 7);
        // -1, 120, 210 and 20; steps of 16 by 14, less 3 by 14, each 5; -3 by 14, each 5.
        dueEach(what -> o.guess(7, 9, what), 349, 1, 65, 14, -15, 14);
    }

    @Sentence("There is none (NONE), if none is LOOKED AT")
    static void noneLookedAtMakesNoGuess() {
        OreBlocks o = new OreBlocks();
        due(o.place(5, 5, 3), 0);
        due(o.guess(5, 5, 0), NOTHING);
        due(o.block(5, 5, 0), NOTHING);
        o.sample(7, 5, 1);
        o.search(4, 4, 1);
        due(o.place(5, 5, 3), 0);
        due(o.guess(5, 5, 0), NOTHING);
        due(o.block(5, 5, 0), NOTHING);
        due(o.place(6, 5, 3), 1);
    }

    @Sentence("or if there are no such numbers")
    static void noSuchNumbersMakeNoGuess() {
        // 1, -1, -1, 1 of the corners is nothing to any corner, but -2 to 7, 7.
        OreBlocks o = Grounds.square();
        o.pieces(0, 1, 4, 0, 4);
        due(o.place(7, 7, 1), 4);
        due(o.place(7, 7, 3), 0);
        dueEach(what -> o.guess(7, 7, what), NOTHING, NOTHING, NOTHING, NOTHING, NOTHING, NOTHING);
        due(o.weight(7, 7, 0, 0), NOTHING);
        due(o.block(7, 7, 0), NOTHING);
    }

    @Sentence("or more than one row of them")
    static void moreThanOneRowMakesNoGuess() {
        // 1, -1, -1, 1 of the corners is nothing to any corner, nor to 5, 5.
        OreBlocks o = Grounds.square();
        o.pieces(0, 1, 10, 1, 20);
        due(o.place(5, 5, 1), 4);
        due(o.place(5, 5, 3), 0);
        dueEach(what -> o.guess(5, 5, what), NOTHING, NOTHING, NOTHING, NOTHING, NOTHING, NOTHING);
        // Even at a sample.
        due(o.guess(4, 4, 0), NOTHING);
        due(o.weight(4, 4, 0, 0), NOTHING);
        due(o.block(4, 4, 0), NOTHING);
    }

    @Sentence("GRADE of it: the sum of WEIGHTS times GRADES.")
    static void aGradeGuessedMayBeOutOfTheBoundsOfGrades() {
        OreBlocks below = Grounds.behind(0, 0, 999);
        dueEach(what -> below.guess(10, 11, what), -3996, 143);
        OreBlocks above = Grounds.behind(999, 999, 0);
        dueEach(what -> above.guess(10, 11, what), 999 * 147, 143);
        OreBlocks alike = Grounds.behind(999, 999, 999);
        dueEach(what -> alike.guess(10, 11, what), 999, 1);
    }

    @Sentence("SPREAD: the sum of WEIGHTS times UNLIKE of (FAR of i and the PLACE), and the FLOOR.")
    static void atASampleItselfNothingIsUnsure() {
        OreBlocks o = Grounds.three();
        o.pieces(9, 2, 5, 1, 12);
        dueEach(what -> o.guess(10, 10, what), 100, 1, 0, 1, 0, 1);
        dueEach(what -> o.guess(10, 13, what), 300, 1, 0, 1, 0, 1);
        dueEach(what -> o.weight(10, 13, 0, what), 1, 1);
    }

    @Sentence("SOUND: for each k from 1 to how many are LOOKED AT, of the first k of them")
    static void theFourthMayBeUnsoundWhereTheFirstThreeAreNot() {
        OreBlocks o = Grounds.square();
        o.pieces(0, 1, 10, 1, 20);
        due(o.place(5, 5, 4), 0);
        for (int most = 1; most <= 3; most++) {
            o.search(most, 4, 62);
            due(o.place(5, 5, 4), 1);
        }
    }

    @Sentence("is above 0, if k is even, below 0, if k is odd.")
    static void aDeterminantOf0IsNotSound() {
        OreBlocks o = Grounds.square();
        due(o.place(5, 5, 4), 0);
        // By the greater way the corners are all alike far, with a nugget all are told apart.
        o.metric(1);
        due(o.place(5, 5, 4), 1);
        o.metric(0);
        o.pieces(1, 2, 5, 1, 12);
        due(o.place(5, 5, 4), 1);
        due(Grounds.one(3, 3, 3).place(0, 0, 4), 1);
    }

    @Sentence("A GUESS for a BLOCK x, y (0 .. 30 each): of the four PLACES x or x and 1, y or y and 1")
    static void blocksStandAtTheCorners() {
        OreBlocks o = Grounds.one(31, 31, 7);
        // The sample is the block's last place: unlike 4, 2, 2, 0; within 2.
        dueEach(what -> o.block(30, 30, what), 7, 1, 2, 1);
        // All four are beyond the range: 17 and 17, less 2.
        dueEach(what -> o.block(0, 0, what), 7, 1, 32, 1);
        dueBounds(x -> o.block(x, 7, 0), 0, 30, BEYOND);
        dueBounds(y -> o.block(7, y, 0), 0, 30, BEYOND);
    }

    @Sentence("LOOKED AT from x, y; instead of UNLIKE of FAR of i and the PLACE stands a fourth of the sum of those to all four")
    static void blocksLookFromTheirFirstPlaceAlone() {
        OreBlocks o = Grounds.one(11, 11, 50);
        o.search(4, 4, 1);
        due(o.block(10, 10, 0), NOTHING);
        due(o.block(11, 11, 0), 50);
        due(o.block(12, 11, 0), 50);
        due(o.block(12, 12, 0), NOTHING);
        // Of one in a quarter, all of the block's places are in quarter 0.
        OreBlocks p = Grounds.one(10, 10, 1);
        p.sample(11, 11, 2);
        p.sample(9, 9, 9);
        p.search(2, 1, 62);
        due(p.looked(10, 10, 1), 2);
        // Unlike to the four: 2, and (4 + 6 + 6 + 8) / 4; apart 4: weights 1 and 0.
        dueEach(what -> p.block(10, 10, what), 1, 1);
    }

    @Sentence("SPREAD is less by a sixteenth of the sum of UNLIKE of FAR of each of the four and each of the four.")
    static void theSpreadOfABlockMayBeBelow0() {
        OreBlocks o = new OreBlocks();
        o.pieces(0, 2, 2, 0, 2);
        o.sample(7, 5, 0);
        o.sample(5, 6, 0);
        o.sample(6, 5, 0);
        // Weights 15, 17 and -4 by 28, floor 1/7: 27/14, less 2.
        dueEach(what -> o.block(5, 5, 2 + what), -1, 14);
    }

    @Sentence("SPREAD is less by a sixteenth of the sum of UNLIKE of FAR of each of the four and each of the four.")
    static void eachOfTheFourIsNotUnlikeItself() {
        OreBlocks o = Grounds.one(5, 5, 1);
        o.pieces(9, 1, 10, 0, 10);
        // To the four 0, 10, 10, 11: 31/4 twice, less 4 times 31 by 16.
        dueEach(what -> o.block(5, 5, 2 + what), 31, 4);
        o.metric(1);
        // To the four 0, 10, 10, 10: 15/2 twice, less 15/2.
        dueEach(what -> o.block(5, 5, 2 + what), 15, 2);
    }

    @Sentence("LEFT OUT, of a SAMPLE: the GUESS for its PLACE, were it not there")
    static void whoIsLeftOutTakesNoRoom() {
        OreBlocks o = Grounds.three();
        o.search(1, 1, 62);
        // Of one in all, and one in quarter 0, the nearest of the others.
        dueEach(what -> o.error(0, what), 100, 1);
        dueEach(what -> o.error(1, what), -100, 1);
        dueEach(what -> o.error(2, what), -200, 1);
        due(o.told(0), 3);
    }

    @Sentence("LEFT OUT, of a SAMPLE: the GUESS for its PLACE, were it not there")
    static void oneAloneHasNoneLeftOut() {
        OreBlocks o = Grounds.one(10, 10, 5);
        due(o.error(0, 0), NOTHING);
        due(o.told(10), 1);
        o.sample(10, 12, 7);
        due(o.error(0, 0), 2);
        o.search(4, 4, 1);
        due(o.error(0, 0), NOTHING);
        due(o.error(1, 1), NOTHING);
        due(o.told(10), 2);
    }

    @Sentence("LEFT OUT, of a SAMPLE: the GUESS for its PLACE, were it not there")
    static void fourOthersMayHaveNoGuess() {
        OreBlocks o = Grounds.square();
        o.pieces(0, 1, 10, 1, 20);
        o.sample(5, 5, 25);
        due(o.error(4, 0), NOTHING);
        due(o.error(4, 1), NOTHING);
        // With the middle one in place of a corner there is one.
        due(o.told(10), 1);
    }

    @Sentence("ERROR: GRADE of this less its own.")
    static void errorsGoToBothSides() {
        OreBlocks o = new OreBlocks();
        o.sample(0, 0, 0);
        o.sample(31, 31, 999);
        dueEach(what -> o.error(0, what), 999, 1);
        dueEach(what -> o.error(1, what), -999, 1);
        o.grade(1, 0);
        dueEach(what -> o.error(1, what), 0, 1);
    }

    @Sentence("NEXT HOLE, of a rectangle of PLACES (8 by 8 at most)")
    static void rectanglesAre1By1To8By8() {
        OreBlocks o = Grounds.one(0, 0, 5);
        due(o.hole(0, 0, 7, 7), 507);
        due(o.hole(24, 24, 31, 31), 2424);
        due(o.hole(31, 31, 31, 31), 3131);
        due(o.hole(0, 0, 8, 7), OUTSIDE);
        due(o.hole(0, 0, 7, 8), OUTSIDE);
        due(o.hole(0, 0, 31, 31), OUTSIDE);
    }

    @Sentence("of those where there is no SAMPLE and there is a GUESS that where its SPREAD is greatest")
    static void noHoleIsWhereSamplesAre() {
        OreBlocks o = new OreBlocks();
        for (int i = 0; i < 10; i++) o.sample(i % 5, i / 5, 0);
        due(o.hole(0, 0, 4, 1), NONE);
        due(o.hole(2, 1, 2, 1), NONE);
        o.take(7);
        due(o.hole(0, 0, 4, 1), 102);
    }

    @Sentence("of those where there is no SAMPLE and there is a GUESS that where its SPREAD is greatest")
    static void noHoleIsWhereThereIsNoGuess() {
        due(new OreBlocks().hole(0, 0, 7, 7), NONE);
        OreBlocks o = Grounds.square();
        o.pieces(0, 1, 10, 1, 20);
        due(o.hole(4, 4, 6, 6), NONE);
        // By reach 2 the middle sees four and has none, each side sees two.
        o.search(4, 4, 2);
        due(o.hole(5, 5, 5, 5), NONE);
        due(o.hole(4, 4, 6, 6), 405);
        due(o.hole(5, 5, 6, 6), 506);
        due(o.hole(20, 20, 27, 27), NONE);
    }

    @Sentence("of like ones the least y, then x; NONE.")
    static void ofLikeHolesTheLeastYThenX() {
        OreBlocks o = Grounds.one(10, 10, 5);
        due(o.hole(8, 8, 12, 12), 808);
        due(o.hole(8, 10, 12, 10), 1008);
        due(o.hole(10, 8, 10, 12), 810);
        // 9, 11 and 11, 9 are alike.
        o.sample(9, 9, 5);
        o.sample(11, 11, 5);
        due(o.hole(9, 9, 11, 11), 911);
    }

    // ---- section 3: the book

    @Sentence("THE BOOK (20 at most)")
    static void theBookHas20AtMost() {
        OreBlocks o = new OreBlocks();
        for (int n = 1; n <= 20; n++) due(o.write(0, 0, NONE), n);
        due(o.write(0, 0, 0), FULL);
        due(o.told(12), 20);
        due(o.told(13), NONE);
        o.tear();
        due(o.write(0, 0, 0), 1);
    }

    @Sentence("tells GRADE of the GUESS for a PLACE, cut towards 0, or NONE")
    static void gradesAreCutTowards0() {
        OreBlocks o = Grounds.three();
        // 650 by 3.
        dueBookValue(o, 11, 11, 216);
        // -2000, -140, -144, -572 by 143; 146853 by 143.
        dueBookValue(Grounds.behind(0, 0, 500), 10, 11, -13);
        dueBookValue(Grounds.behind(0, 0, 35), 10, 11, 0);
        dueBookValue(Grounds.behind(0, 0, 36), 10, 11, -1);
        dueBookValue(Grounds.behind(0, 0, 143), 10, 11, -4);
        dueBookValue(Grounds.behind(999, 999, 0), 10, 11, 1026);
        dueBookValue(Grounds.one(0, 0, 0), 10, 11, 0);
    }

    @Sentence("tells GRADE of the GUESS for a PLACE, cut towards 0, or NONE")
    static void whereThereIsNoGuessTheBookTellsNone() {
        dueBookValue(new OreBlocks(), 3, 3, NONE);
        OreBlocks o = Grounds.square();
        o.pieces(0, 1, 10, 1, 20);
        dueBookValue(o, 5, 5, NONE);
    }

    private static void dueBookValue(OreBlocks o, int x, int y, int want) {
        for (int v : new int[] {want - 1, want, want + 1, LEAST, GREATEST}) {
            o.tear();
            o.write(x, y, v);
            due(o.told(13), v == want ? NONE : 0);
        }
    }

    @Sentence("WRONG: the first that is otherwise now; NONE.")
    static void theFirstWrongMayBeTheLastOf20() {
        OreBlocks o = Grounds.three();
        due(o.told(13), NONE);
        for (int n = 0; n < 19; n++) o.write(10, 10, 100);
        due(o.told(13), NONE);
        o.write(10, 13, 299);
        due(o.told(13), 19);
        // What is so now counts, not what was so when it was written.
        o.grade(2, 299);
        due(o.told(13), NONE);
        o.grade(0, 101);
        due(o.told(13), 0);
        o.undo(1);
        due(o.told(13), NONE);
    }

    // ---- section 3: draws

    @Sentence("BY DRAWS: THE SEED (0 at first: each DRAW it becomes it times 1103515245 and 12345, left over by 2 to the 31")
    static void theSeedWrapsAround() {
        for (int v : new int[] {0, 1, 1073741823, 1073741824, GREATEST - 1, GREATEST}) {
            OreBlocks o = new OreBlocks();
            due(o.told(15), 0);
            o.seed(v);
            o.drift(1);
            due(o.told(15), seedAfter(v, 3));
        }
    }

    @Sentence("BY DRAWS: THE SEED (0 at first: each DRAW it becomes it times 1103515245 and 12345, left over by 2 to the 31")
    static void theSeedComesTo0AndToTheGreatest() {
        OreBlocks o = new OreBlocks();
        o.seed(80477501);
        o.drift(1);
        due(o.told(15), 0);
        o.seed(1486203808);
        o.drift(1);
        due(o.told(15), GREATEST);
    }

    private static long seedAfter(long seed, int draws) {
        BigInteger s = BigInteger.valueOf(seed);
        for (int k = 0; k < draws; k++) {
            s = s.multiply(BigInteger.valueOf(1103515245)).add(BigInteger.valueOf(12345)).mod(BigInteger.TWO.pow(31));
        }
        return s.longValueExact();
    }

    @Sentence("the DRAW of n is it / 65536, left over by n")
    static void drawsComeTo0AndToTheGreatest() {
        OreBlocks o = new OreBlocks();
        o.seed(202082);
        o.drift(1);
        dueEach(what -> o.at(0, what), 0, 0, 0);
        o.seed(1052308);
        o.drift(1);
        dueEach(what -> o.at(1, what), 31, 31, 999);
    }

    @Sentence("n times, while there is room")
    static void whereThereIsNoRoomNothingIsDrawn() {
        OreBlocks o = Grounds.ten();
        o.seed(5);
        due(o.drift(10), 10);
        due(o.told(15), 5);
        due(o.told(14), 10);
        o.take(9);
        due(o.drift(10), 10);
        due(o.told(15), seedAfter(5, 3));
        due(o.told(14), 12);
    }

    @Sentence("a DRAW of 32 (x), of 32 (y), of 1000, each time: a SAMPLE comes there, if none is there.")
    static void whereOneIsTheDrawsAreSpent() {
        OreBlocks o = Grounds.one(31, 31, 5);
        o.seed(1052308);
        due(o.drift(1), 1);
        due(o.at(0, 2), 5);
        due(o.told(15), seedAfter(1052308, 3));
        due(o.told(14), 1);
        // With room for one, the first time meets one, and the second brings one.
        OreBlocks p = new OreBlocks();
        for (int i = 0; i < 8; i++) p.sample(i, 0, 0);
        p.sample(31, 31, 5);
        p.seed(1052308);
        due(p.drift(2), 10);
        due(p.told(15), seedAfter(1052308, 6));
        due(p.at(9, 2), seedAfter(1052308, 6) / 65536 % 1000);
    }

    // ---- section 3: undone, images

    @Sentence("UNDONE: the latest deeds (not refused, be it that they change nothing")
    static void deedsThatChangeNothingCountAndRefusedOnesDoNot() {
        OreBlocks o = Grounds.one(5, 5, 7);
        due(o.grade(0, 7), 7);
        due(o.told(14), 2);
        o.pieces(0, 2, 5, 1, 12);
        due(o.told(14), 3);
        o.search(4, 4, 62);
        due(o.told(14), 4);
        o.metric(0);
        due(o.told(14), 5);
        o.sample(5, 5, 7);
        o.take(1);
        o.grade(0, 1000);
        o.pieces(0, 2, 5, 3, 12);
        o.search(0, 4, 62);
        o.metric(2);
        o.drift(0);
        due(o.told(14), 5);
        due(o.undo(4), 1);
        due(o.told(0), 1);
        due(o.undo(1), 0);
        due(o.told(0), 0);
    }

    @Sentence("sample(), take(), grade(), pieces(), search(), metric(), each SAMPLE that comes BY DRAWS)")
    static void nothingElseIsADeed() {
        OreBlocks o = new OreBlocks();
        o.seed(3);
        o.write(0, 0, 0);
        o.tear();
        due(o.told(14), 0);
        o.drift(3);
        due(o.told(14), 3);
        due(o.undo(1), 2);
        due(o.told(0), 2);
        o.take(0);
        due(o.told(14), 3);
        // An undoing is not undone.
        due(o.undo(1), 2);
        due(o.undo(2), 0);
        due(o.undo(1), NOT);
    }

    @Sentence("since the IMAGE (16 at most are kept)")
    static void sixteenAreKept() {
        OreBlocks o = new OreBlocks();
        o.drift(10);
        for (int g = 0; g < 6; g++) o.grade(0, g);
        due(o.told(14), 16);
        o.grade(0, 6);
        due(o.told(14), 16);
        due(o.undo(16), 0);
        // The first that came by draws is not undone.
        due(o.told(0), 1);
        due(o.undo(1), NOT);
    }

    @Sentence("since the IMAGE (16 at most are kept)")
    static void deedsAreUndoneInTheirOrderHoweverManyThereWere() {
        for (int deeds = 16; deeds <= 50; deeds++) {
            OreBlocks o = Grounds.one(0, 0, 0);
            for (int g = 1; g <= deeds; g++) o.grade(0, g);
            for (int n = 1; n <= 16; n++) {
                due(o.undo(1), 16 - n);
                due(o.at(0, 2), deeds - n);
            }
            due(o.undo(1), NOT);
            for (int g = 101; g <= 120; g++) o.grade(0, g);
            due(o.undo(16), 0);
            due(o.at(0, 2), 104);
        }
    }

    @Sentence("since the IMAGE (16 at most are kept)")
    static void whatWasAheadOfTheImageIsNotUndone() {
        OreBlocks o = Grounds.three();
        o.keep(0);
        due(o.undo(1), NOT);
        o.take(0);
        o.take(0);
        due(o.undo(3), NOT);
        due(o.undo(2), 0);
        due(o.told(0), 3);
        o.take(0);
        o.goBack(0);
        due(o.told(14), 0);
        due(o.undo(1), NOT);
    }

    @Sentence("all of section 1 is as ahead of them; THE SEED, THE BOOK stay.")
    static void allOfSection1ComesBackAndNoMore() {
        OreBlocks o = Grounds.ten();
        List<Long> want = Grounds.state(o);
        o.keep(0);
        o.take(0);
        o.grade(0, 999);
        o.pieces(9, 9, 10, 9, 20);
        o.search(1, 1, 1);
        o.metric(1);
        o.drift(1);
        o.seed(5);
        o.write(0, 0, 0);
        due(o.undo(6), 0);
        due(o.told(12), 1);
        due(o.told(15), 5);
        o.tear();
        o.seed(0);
        List<Long> got = Grounds.state(o);
        // Deeds that can be undone are told apart.
        want.set(14, 0L);
        due(got.equals(want) ? 1 : 0, 1);
    }

    @Sentence("IMAGES 0, 1 keep all of section 1, THE SEED.")
    static void imagesKeepEachTheirOwnAndNoBook() {
        OreBlocks o = Grounds.ten();
        o.seed(GREATEST);
        o.keep(0);
        List<Long> full = Grounds.state(o);
        for (int i = 0; i < 10; i++) o.take(0);
        o.pieces(9, 9, 10, 9, 20);
        o.search(1, 1, 1);
        o.metric(1);
        o.seed(0);
        o.keep(1);
        List<Long> empty = Grounds.state(o);
        o.goBack(0);
        due(Grounds.state(o).equals(full) ? 1 : 0, 1);
        o.goBack(1);
        due(Grounds.state(o).equals(empty) ? 1 : 0, 1);
        o.write(0, 0, 5);
        o.goBack(0);
        due(o.told(12), 1);
        o.keep(1);
        o.tear();
        o.goBack(1);
        due(o.told(12), 0);
    }
}
