import java.util.List;

/** The edges that the promises name, in their order: a test for each sentence. */
public final class OreBlocksPromiseEdges extends Sentences {
    public static void main(String[] args) throws Exception {
        run(OreBlocksPromiseEdges.class, 1, 24);
    }

    // ---- a new object

    @Sentence(promise = 1, value = "No SAMPLES.")
    static void aNewObjectHasNothing() {
        OreBlocks o = new OreBlocks();
        dueEach(o::told, 0, 0, 0, 2, 5, 1, 12, 4, 4, 62, 0, NONE, 0, NONE, 0, 0);
        for (int i = 0; i < 10; i++) due(o.at(i, 0), UNKNOWN);
        due(o.undo(1), NOT);
        due(o.goBack(0), NOT);
        due(o.goBack(1), NOT);
        due(o.tear(), 0);
    }

    @Sentence(promise = 1, value = "No SAMPLES.")
    static void aNewObjectHasNothingOfAnother() {
        OreBlocks other = Grounds.brimful();
        other.keep(1);
        OreBlocks o = new OreBlocks();
        dueEach(o::told, 0, 0, 0, 2, 5, 1, 12, 4, 4, 62, 0, NONE, 0, NONE, 0, 0);
        due(o.goBack(1), NOT);
        o.sample(1, 1, 1);
        o.seed(3);
        due(other.told(0), 10);
        due(other.told(15), 99);
    }

    // ---- told

    @Sentence(promise = 2, value = "0 SAMPLES, 1 METRIC")
    static void toldOfSamplesAndMetric() {
        OreBlocks o = new OreBlocks();
        dueEach(o::told, 0, 0);
        o.metric(1);
        for (int i = 1; i <= 10; i++) {
            o.sample(i, i, i);
            dueEach(o::told, i, 1);
        }
    }

    @Sentence(promise = 2, value = "2 NUGGET, 3 STEEP, 4 KNOT, 5 FLAT, 6 RANGE")
    static void toldOfTheLeastAndGreatestPieces() {
        OreBlocks o = new OreBlocks();
        o.pieces(0, 1, 1, 0, 1);
        dueEach(what -> o.told(2 + what), 0, 1, 1, 0, 1);
        o.pieces(9, 9, 10, 9, 20);
        dueEach(what -> o.told(2 + what), 9, 9, 10, 9, 20);
    }

    @Sentence(promise = 2, value = "7 MOST, 8 IN A QUARTER, 9 REACH")
    static void toldOfTheLeastAndGreatestSearch() {
        OreBlocks o = new OreBlocks();
        o.search(1, 1, 1);
        dueEach(what -> o.told(7 + what), 1, 1, 1);
        o.search(4, 4, 62);
        dueEach(what -> o.told(7 + what), 4, 4, 62);
    }

    @Sentence(promise = 2, value = "10 SAMPLES that have no GUESS LEFT OUT (how many)")
    static void noneToAllHaveNoGuessLeftOut() {
        OreBlocks o = new OreBlocks();
        due(o.told(10), 0);
        o.sample(0, 0, 1);
        due(o.told(10), 1);
        o.sample(0, 1, 1);
        due(o.told(10), 0);
        OreBlocks p = Grounds.ten();
        due(p.told(10), 0);
        p.search(4, 4, 2);
        due(p.told(10), 10);
        p.take(0);
        p.sample(1, 0, 0);
        // 1 and 3 are 2 apart; they see each other alone.
        due(p.told(10), 8);
    }

    @Sentence(promise = 2, value = "11 the one whose ERROR is farthest from 0")
    static void theFarthestErrorMayBeOnEitherSide() {
        OreBlocks o = new OreBlocks();
        o.sample(10, 10, 500);
        o.sample(10, 12, 500);
        o.sample(10, 14, 500);
        o.sample(10, 16, 900);
        // It is guessed below what it is.
        due(o.told(11), 3);
        o.grade(3, 100);
        due(o.told(11), 3);
    }

    @Sentence(promise = 2, value = "of like ones the least number; NONE: none has a GUESS")
    static void ofLikeErrorsTheLeastNumber() {
        OreBlocks o = new OreBlocks();
        o.sample(0, 0, 100);
        o.sample(5, 0, 300);
        // 200 and -200 are alike far from 0.
        due(o.told(11), 0);
        o.grade(0, 300);
        // So are 0 and 0.
        due(o.told(11), 0);
    }

    @Sentence(promise = 2, value = "of like ones the least number; NONE: none has a GUESS")
    static void whereNoneHasAGuessNoneIsFarthest() {
        OreBlocks o = new OreBlocks();
        due(o.told(11), NONE);
        o.sample(0, 0, 100);
        due(o.told(11), NONE);
        o.sample(0, 5, 100);
        o.search(4, 4, 4);
        due(o.told(11), NONE);
        // The first has no guess left out, the others have.
        o.sample(0, 9, 100);
        due(o.told(11), 1);
    }

    @Sentence(promise = 2, value = "12 entries of THE BOOK, 13 WRONG")
    static void toldOfABookOf0To20() {
        OreBlocks o = new OreBlocks();
        due(o.told(12), 0);
        due(o.told(13), NONE);
        for (int n = 1; n <= 19; n++) o.write(n, n, NONE);
        due(o.told(13), NONE);
        o.write(20, 20, 0);
        due(o.told(12), 20);
        due(o.told(13), 19);
        o.write(21, 21, 0);
        due(o.told(12), 20);
    }

    @Sentence(promise = 2, value = "14 how many can be undone")
    static void toldOf0To16Undone() {
        OreBlocks o = new OreBlocks();
        due(o.told(14), 0);
        for (int n = 1; n <= 40; n++) {
            o.metric(n % 2);
            due(o.told(14), Math.min(n, 16));
        }
    }

    @Sentence(promise = 2, value = "15 THE SEED")
    static void toldOfTheLeastAndGreatestSeed() {
        OreBlocks o = new OreBlocks();
        due(o.told(15), 0);
        o.seed(GREATEST);
        due(o.told(15), GREATEST);
        o.seed(0);
        due(o.told(15), 0);
    }

    @Sentence(promise = 2, value = "OUTSIDE.")
    static void nothingIsToldBut0To15() {
        OreBlocks o = Grounds.brimful();
        dueBounds(o::told, 0, 15, OUTSIDE);
    }

    // ---- at

    @Sentence(promise = 3, value = "Of a SAMPLE: what = 0 x, 1 y, 2 GRADE.")
    static void theFirstAndTheTenthAreTold() {
        OreBlocks o = new OreBlocks();
        o.sample(0, 31, 0);
        for (int i = 1; i < 9; i++) o.sample(i, i, i);
        o.sample(31, 0, 999);
        dueEach(what -> o.at(0, what), 0, 31, 0);
        dueEach(what -> o.at(9, what), 31, 0, 999);
    }

    @Sentence(promise = 3, value = "UNKNOWN, OUTSIDE.")
    static void thereIsNoSampleBeyondTheLast() {
        dueBounds(i -> Grounds.three().at(i, 0), 0, 2, UNKNOWN);
        dueBounds(i -> Grounds.ten().at(i, 2), 0, 9, UNKNOWN);
        due(new OreBlocks().at(0, 0), UNKNOWN);
    }

    @Sentence(promise = 3, value = "UNKNOWN, OUTSIDE.")
    static void thereIsNothingOfASampleBut0To2() {
        dueBounds(what -> Grounds.three().at(2, what), 0, 2, OUTSIDE);
        dueEach(what -> Grounds.three().at(3, 3 - what), UNKNOWN, UNKNOWN);
    }

    // ---- unlike

    @Sentence(promise = 4, value = "UNLIKE of h (0 .. 62). OUTSIDE.")
    static void unlikeIsOf0To62() {
        OreBlocks o = new OreBlocks();
        dueBounds(o::unlike, 0, 62, OUTSIDE);
        due(o.unlike(0), 0);
        due(o.unlike(62), 17);
    }

    // ---- place

    @Sentence(promise = 5, value = "Of a PLACE: what = 0 the SAMPLE there (NONE)")
    static void theSampleAtAPlaceOrNone() {
        OreBlocks o = Grounds.ten();
        due(o.place(0, 0, 0), 0);
        due(o.place(27, 0, 0), 9);
        due(o.place(27, 1, 0), NONE);
        due(o.place(26, 0, 0), NONE);
        // Out of reach it is there all the same.
        o.search(1, 1, 1);
        due(o.place(27, 0, 0), 9);
        o.take(0);
        due(o.place(0, 0, 0), NONE);
        due(o.place(27, 0, 0), 8);
    }

    @Sentence(promise = 5, value = "1 how many are LOOKED AT, 2 those (a SET)")
    static void noneToFourAreLookedAt() {
        OreBlocks o = new OreBlocks();
        for (int i = 0; i < 7; i++) {
            due(o.place(5, 5, 1), Math.min(i, 4));
            due(o.place(5, 5, 2), (1 << Math.min(i, 4)) - 1);
            o.sample(5 + i, 5, 0);
        }
    }

    @Sentence(promise = 5, value = "3 1 there is a GUESS, 0 not")
    static void thereIsAGuessOrNot() {
        OreBlocks o = new OreBlocks();
        due(o.place(5, 5, 3), 0);
        o.sample(5, 5, 0);
        due(o.place(5, 5, 3), 1);
        OreBlocks p = Grounds.square();
        due(p.place(5, 5, 3), 0);
        p.metric(1);
        due(p.place(5, 5, 3), 1);
    }

    @Sentence(promise = 5, value = "4 1 SOUND (none LOOKED AT: 1), 0 not")
    static void noneLookedAtIsSound() {
        OreBlocks o = new OreBlocks();
        due(o.place(5, 5, 4), 1);
        OreBlocks p = Grounds.square();
        due(p.place(5, 5, 4), 0);
        p.search(4, 4, 1);
        due(p.place(5, 5, 4), 1);
        due(p.place(5, 5, 1), 0);
    }

    @Sentence(promise = 5, value = "5 those whose WEIGHTS are below 0 (a SET; no GUESS: 0)")
    static void weightsOf0AreNotBelow0() {
        OreBlocks o = Grounds.behind(1, 2, 3);
        due(o.place(10, 11, 5), 4);
        // At a sample the others' weights are 0.
        due(o.place(10, 10, 5), 0);
        due(o.weight(10, 10, 1, 0), 0);
    }

    @Sentence(promise = 5, value = "5 those whose WEIGHTS are below 0 (a SET; no GUESS: 0)")
    static void theNearestMayHaveAWeightBelow0() {
        OreBlocks o = Grounds.hidden();
        due(o.looked(7, 9, 0), 0);
        due(o.place(7, 9, 5), 1);
    }

    @Sentence(promise = 5, value = "5 those whose WEIGHTS are below 0 (a SET; no GUESS: 0)")
    static void aSmallWeightMayBeBelow0() {
        OreBlocks o = new OreBlocks();
        o.metric(1);
        o.pieces(0, 1, 2, 0, 4);
        o.sample(5, 7, 0);
        o.sample(6, 5, 0);
        o.sample(6, 4, 0);
        // Apart 2, 2 and 1, and 2, 1 and 2 from the place: 2, 6 and -1 by 7.
        dueEach(what -> o.weight(7, 6, 2, what), -1, 7);
        due(o.place(7, 6, 5), 4);
    }

    @Sentence(promise = 5, value = "5 those whose WEIGHTS are below 0 (a SET; no GUESS: 0)")
    static void whereThereIsNoGuessNoWeightIsBelow0() {
        OreBlocks o = new OreBlocks();
        due(o.place(5, 5, 5), 0);
        OreBlocks p = Grounds.square();
        p.pieces(0, 1, 4, 0, 4);
        for (int x = 0; x < 10; x++) {
            due(p.place(x, 7, 3), 0);
            due(p.place(x, 7, 5), 0);
        }
    }

    @Sentence(promise = 5, value = "OUTSIDE.")
    static void thereIsNothingOfAPlaceBut0To5() {
        OreBlocks o = Grounds.three();
        dueBounds(x -> o.place(x, 7, 0), 0, 31, OUTSIDE);
        dueBounds(y -> o.place(7, y, 5), 0, 31, OUTSIDE);
        dueBounds(what -> o.place(7, 7, what), 0, 5, OUTSIDE);
        dueBounds(what -> new OreBlocks().place(7, 7, what), 0, 5, OUTSIDE);
    }

    // ---- looked

    @Sentence(promise = 6, value = "NONE: not so many.")
    static void thereAreNotSoManyLookedAt() {
        OreBlocks o = new OreBlocks();
        dueEach(i -> o.looked(5, 5, i), NONE, NONE, NONE, NONE);
        o.sample(5, 5, 0);
        dueEach(i -> o.looked(5, 5, i), 0, NONE, NONE, NONE);
        OreBlocks p = Grounds.ten();
        dueEach(i -> p.looked(27, 0, i), 9, 8, 7, 6);
        p.search(3, 4, 62);
        dueEach(i -> p.looked(27, 0, i), 9, 8, 7, NONE);
        // One that was looked at, and is not now, is not told.
        p.search(4, 4, 3);
        dueEach(i -> p.looked(27, 0, i), 9, 8, NONE, NONE);
    }

    @Sentence(promise = 6, value = "OUTSIDE (i 0 .. 3).")
    static void lookedIsOf0To3() {
        OreBlocks o = Grounds.three();
        dueBounds(x -> o.looked(x, 7, 0), 0, 31, OUTSIDE);
        dueBounds(y -> o.looked(7, y, 0), 0, 31, OUTSIDE);
        dueBounds(i -> o.looked(7, 7, i), 0, 3, OUTSIDE);
        dueBounds(i -> new OreBlocks().looked(7, 7, i), 0, 3, OUTSIDE);
    }

    // ---- guess

    @Sentence(promise = 7, value = "NOTHING: there is none.")
    static void noGuessTellsNothing() {
        OreBlocks o = new OreBlocks();
        dueEach(what -> o.guess(5, 5, what), NOTHING, NOTHING, NOTHING, NOTHING, NOTHING, NOTHING);
        OreBlocks p = Grounds.square();
        dueEach(what -> p.guess(5, 5, what), NOTHING, NOTHING, NOTHING, NOTHING, NOTHING, NOTHING);
        p.take(3);
        due(p.guess(4, 4, 0), 10);
    }

    @Sentence(promise = 7, value = "BEYOND (as OUTSIDE).")
    static void guessesAreOfPlacesAndOf0To5() {
        for (OreBlocks o : List.of(new OreBlocks(), Grounds.three())) {
            dueBounds(x -> o.guess(x, 7, 0), 0, 31, BEYOND);
            dueBounds(y -> o.guess(7, y, 0), 0, 31, BEYOND);
            dueBounds(what -> o.guess(7, 7, what), 0, 5, BEYOND);
        }
    }

    // ---- weight

    @Sentence(promise = 8, value = "NOTHING: there is no GUESS, not so many.")
    static void noWeightTellsNothing() {
        OreBlocks o = new OreBlocks();
        dueEach(i -> o.weight(5, 5, i, 1), NOTHING, NOTHING, NOTHING, NOTHING);
        o.sample(5, 5, 0);
        dueEach(i -> o.weight(5, 5, i, 1), 1, NOTHING, NOTHING, NOTHING);
        OreBlocks p = Grounds.square();
        dueEach(i -> p.weight(5, 5, i, 0), NOTHING, NOTHING, NOTHING, NOTHING);
        p.search(3, 4, 62);
        // 0, 1 and 2 are the corners 4, 4, above and beside it: weights 0, 1/2, 1/2.
        dueEach(i -> p.weight(5, 5, i, 0), 0, 1, 1, NOTHING);
        dueEach(i -> p.weight(5, 5, i, 1), 1, 2, 2, NOTHING);
    }

    @Sentence(promise = 8, value = "BEYOND (as OUTSIDE; i 0 .. 3).")
    static void weightsAreOf0To3() {
        for (OreBlocks o : List.of(new OreBlocks(), Grounds.three())) {
            dueBounds(x -> o.weight(x, 7, 0, 0), 0, 31, BEYOND);
            dueBounds(y -> o.weight(7, y, 0, 0), 0, 31, BEYOND);
            dueBounds(i -> o.weight(7, 7, i, 0), 0, 3, BEYOND);
            dueBounds(what -> o.weight(7, 7, 0, what), 0, 1, BEYOND);
            dueBounds(what -> o.weight(7, 7, 3, what), 0, 1, BEYOND);
        }
    }

    // ---- block

    @Sentence(promise = 9, value = "NOTHING: there is none.")
    static void noGuessForABlockTellsNothing() {
        OreBlocks o = new OreBlocks();
        dueEach(what -> o.block(30, 30, what), NOTHING, NOTHING, NOTHING, NOTHING);
        OreBlocks p = Grounds.square();
        dueEach(what -> p.block(4, 4, what), NOTHING, NOTHING, NOTHING, NOTHING);
        p.take(0);
        due(p.block(4, 4, 0) == NOTHING ? 1 : 0, 0);
    }

    @Sentence(promise = 9, value = "BEYOND (as OUTSIDE).")
    static void blocksAreOf0To30AndOf0To3() {
        for (OreBlocks o : List.of(new OreBlocks(), Grounds.three())) {
            dueBounds(x -> o.block(x, 7, 0), 0, 30, BEYOND);
            dueBounds(y -> o.block(7, y, 0), 0, 30, BEYOND);
            dueBounds(what -> o.block(7, 7, what), 0, 3, BEYOND);
        }
    }

    // ---- error

    @Sentence(promise = 10, value = "NOTHING: there is no GUESS.")
    static void noGuessLeftOutTellsNothing() {
        OreBlocks o = Grounds.one(5, 5, 5);
        dueEach(what -> o.error(0, what), NOTHING, NOTHING);
        o.sample(5, 6, 6);
        dueEach(what -> o.error(0, what), 1, 1);
        dueEach(what -> o.error(1, what), -1, 1);
    }

    @Sentence(promise = 10, value = "NOBODY (as UNKNOWN), BEYOND (as OUTSIDE).")
    static void errorsAreOfSamples() {
        due(new OreBlocks().error(0, 0), NOBODY);
        dueBounds(i -> Grounds.one(5, 5, 5).error(i, 0), 0, 0, NOBODY);
        dueBounds(i -> Grounds.three().error(i, 1), 0, 2, NOBODY);
        dueBounds(i -> Grounds.ten().error(i, 0), 0, 9, NOBODY);
    }

    @Sentence(promise = 10, value = "NOBODY (as UNKNOWN), BEYOND (as OUTSIDE).")
    static void errorsHaveAnAboveAndABelow() {
        dueBounds(what -> Grounds.three().error(2, what), 0, 1, BEYOND);
        // Also where there is no guess; but of nobody it is nobody.
        dueBounds(what -> Grounds.one(5, 5, 5).error(0, what), 0, 1, BEYOND);
        due(Grounds.three().error(3, 2), NOBODY);
    }

    // ---- hole

    @Sentence(promise = 11, value = "NEXT HOLE from PLACE x, y to u, v (no less, 7 more at most)")
    static void theOtherCornerIs0To7More() {
        OreBlocks o = Grounds.three();
        dueBounds(u -> o.hole(12, 12, u, 14), 12, 19, OUTSIDE);
        dueBounds(v -> o.hole(12, 12, 14, v), 12, 19, OUTSIDE);
        dueBounds(x -> o.hole(x, 12, 19, 14), 12, 19, OUTSIDE);
        dueBounds(y -> o.hole(12, y, 14, 19), 12, 19, OUTSIDE);
    }

    @Sentence(promise = 11, value = "100 times y, and x; NONE.")
    static void holesAreToldFrom0To3131() {
        OreBlocks o = Grounds.one(1, 0, 5);
        due(o.hole(0, 0, 0, 0), 0);
        due(o.hole(1, 0, 1, 0), NONE);
        due(o.hole(31, 31, 31, 31), 3131);
        due(o.hole(31, 0, 31, 0), 31);
        due(o.hole(0, 31, 0, 31), 3100);
    }

    @Sentence(promise = 11, value = "OUTSIDE.")
    static void rectanglesEndAtTheLastPlaces() {
        OreBlocks o = Grounds.three();
        dueBounds(u -> o.hole(31, 5, u, 5), 31, 31, OUTSIDE);
        dueBounds(v -> o.hole(5, 31, 5, v), 31, 31, OUTSIDE);
        dueBounds(x -> o.hole(x, 5, 0, 5), 0, 0, OUTSIDE);
        dueBounds(y -> o.hole(5, y, 5, 0), 0, 0, OUTSIDE);
        due(o.hole(25, 25, 32, 31), OUTSIDE);
        due(o.hole(25, 25, 31, 32), OUTSIDE);
        due(o.hole(-1, 0, 0, 0), OUTSIDE);
        due(o.hole(0, -1, 0, 0), OUTSIDE);
        // Apart by a wrap-around they are out all the same.
        due(o.hole(GREATEST, 0, LEAST, 0), OUTSIDE);
        due(o.hole(0, GREATEST, 0, LEAST), OUTSIDE);
        due(new OreBlocks().hole(0, 0, 8, 0), OUTSIDE);
    }

    // ---- sample

    @Sentence(promise = 12, value = "A SAMPLE comes: its number.")
    static void samplesHaveNumbers0To9() {
        OreBlocks o = new OreBlocks();
        for (int i = 0; i < 10; i++) due(o.sample(31 - i, i, 999 - i), i);
        for (int i = 0; i < 10; i++) due(o.at(i, 2), 999 - i);
    }

    @Sentence(promise = 12, value = "OUTSIDE, NOT: one is there")
    static void noSampleComesFromOutside() {
        dueBounds(x -> new OreBlocks().sample(x, 0, 0), 0, 31, OUTSIDE);
        dueBounds(y -> new OreBlocks().sample(0, y, 0), 0, 31, OUTSIDE);
        dueBounds(g -> new OreBlocks().sample(0, 0, g), 0, 999, OUTSIDE);
    }

    @Sentence(promise = 12, value = "OUTSIDE, NOT: one is there")
    static void noSampleComesWhereOneIs() {
        OreBlocks o = new OreBlocks();
        o.sample(0, 0, 1);
        o.sample(31, 31, 1);
        due(o.sample(0, 0, 1), NOT);
        due(o.sample(31, 31, 2), NOT);
        due(o.sample(0, 31, 2), 2);
        due(o.told(14), 3);
    }

    @Sentence(promise = 12, value = "FULL (10; ahead of NOT)")
    static void fullComesAheadOfNot() {
        OreBlocks o = Grounds.ten();
        due(o.sample(0, 0, 1), FULL);
        due(o.sample(1, 1, 1), FULL);
        due(o.told(0), 10);
        due(o.told(14), 10);
        o.take(9);
        due(o.sample(0, 0, 1), NOT);
        due(o.sample(1, 1, 1), 9);
    }

    // ---- take

    @Sentence(promise = 13, value = "A SAMPLE goes: how many are left.")
    static void samplesGoToTheLast() {
        OreBlocks o = Grounds.ten();
        for (int left = 9; left >= 0; left--) due(o.take(left / 2), left);
        due(o.told(0), 0);
        due(o.place(0, 0, 1), 0);
    }

    @Sentence(promise = 13, value = "UNKNOWN.")
    static void noneGoesThatThereIsNot() {
        due(new OreBlocks().take(0), UNKNOWN);
        dueBounds(i -> Grounds.one(0, 0, 0).take(i), 0, 0, UNKNOWN);
        dueBounds(i -> Grounds.three().take(i), 0, 2, UNKNOWN);
        dueBounds(i -> Grounds.ten().take(i), 0, 9, UNKNOWN);
    }

    // ---- grade

    @Sentence(promise = 14, value = "GRADE of a SAMPLE: what it was.")
    static void gradesGoFrom0To999AndBack() {
        OreBlocks o = Grounds.ten();
        due(o.grade(9, 999), 90);
        due(o.grade(9, 0), 999);
        due(o.grade(9, 0), 0);
        due(o.at(9, 2), 0);
        due(o.at(8, 2), 80);
    }

    @Sentence(promise = 14, value = "UNKNOWN, OUTSIDE.")
    static void gradesAreOfSamplesAndOf0To999() {
        due(new OreBlocks().grade(0, 0), UNKNOWN);
        dueBounds(i -> Grounds.three().grade(i, 5), 0, 2, UNKNOWN);
        dueBounds(g -> Grounds.three().grade(2, g), 0, 999, OUTSIDE);
        dueBounds(i -> Grounds.ten().grade(i, 999), 0, 9, UNKNOWN);
        due(Grounds.ten().grade(10, 1000), UNKNOWN);
    }

    // ---- pieces

    @Sentence(promise = 15, value = "PIECES: UNLIKE of 10 that was.")
    static void unlikeOf10IsAheadOfWhatIsTold() {
        OreBlocks o = new OreBlocks();
        due(o.pieces(0, 1, 1, 0, 1), 15);
        // Beyond the range; at the knot; between them; at the range.
        due(o.pieces(2, 3, 10, 3, 20), 1);
        due(o.pieces(2, 3, 4, 1, 20), 32);
        due(o.pieces(2, 3, 4, 1, 10), 20);
        due(o.pieces(2, 3, 4, 1, 9), 20);
        due(o.pieces(9, 9, 10, 9, 20), 19);
        due(o.pieces(9, 9, 10, 9, 20), 99);
        due(o.told(14), 7);
    }

    @Sentence(promise = 15, value = "OUTSIDE.")
    static void piecesHaveBounds() {
        dueBounds(v -> new OreBlocks().pieces(v, 9, 10, 9, 20), 0, 9, OUTSIDE);
        dueBounds(v -> new OreBlocks().pieces(9, v, 10, 0, 20), 1, 9, OUTSIDE);
        dueBounds(v -> new OreBlocks().pieces(9, 9, v, 9, 20), 1, 10, OUTSIDE);
        dueBounds(v -> new OreBlocks().pieces(9, 9, 10, v, 20), 0, 9, OUTSIDE);
        dueBounds(v -> new OreBlocks().pieces(9, 9, 10, 9, v), 10, 20, OUTSIDE);
        // What is out of its bounds sets no bound for others.
        due(new OreBlocks().pieces(0, GREATEST, 5, GREATEST, 12), OUTSIDE);
        due(new OreBlocks().pieces(0, 2, LEAST, 1, LEAST), OUTSIDE);
    }

    // ---- search

    @Sentence(promise = 16, value = "SEARCH: MOST that was.")
    static void mostIsAheadOfWhatIsTold() {
        OreBlocks o = new OreBlocks();
        due(o.search(1, 4, 62), 4);
        due(o.search(4, 1, 1), 1);
        due(o.search(4, 1, 1), 4);
        due(o.told(14), 3);
    }

    @Sentence(promise = 16, value = "OUTSIDE.")
    static void searchHasBounds() {
        OreBlocks o = new OreBlocks();
        dueBounds(v -> o.search(v, 1, 1), 1, 4, OUTSIDE);
        dueBounds(v -> o.search(1, v, 1), 1, 4, OUTSIDE);
        dueBounds(v -> o.search(1, 1, v), 1, 62, OUTSIDE);
        // More in a quarter than in all is no fault.
        due(o.search(1, 4, 1), 1);
    }

    // ---- metric

    @Sentence(promise = 17, value = "METRIC: what it was.")
    static void metricIsAheadOfWhatIsTold() {
        OreBlocks o = new OreBlocks();
        due(o.metric(0), 0);
        due(o.metric(1), 0);
        due(o.metric(1), 1);
        due(o.metric(0), 1);
        due(o.told(14), 4);
    }

    @Sentence(promise = 17, value = "OUTSIDE (0, 1).")
    static void metricIs0Or1() {
        OreBlocks o = new OreBlocks();
        dueBounds(o::metric, 0, 1, OUTSIDE);
    }

    // ---- drift

    @Sentence(promise = 18, value = "n times BY DRAWS (1 .. 10): SAMPLES.")
    static void samplesAreCountedNotDraws() {
        OreBlocks o = Grounds.three();
        due(o.drift(1), 4);
        due(o.drift(6), 10);
        due(o.drift(1), 10);
        OreBlocks p = new OreBlocks();
        due(p.drift(10), 10);
        due(p.told(14), 10);
    }

    @Sentence(promise = 18, value = "n times BY DRAWS (1 .. 10): SAMPLES.")
    static void whoMeetsSamplesEachTimeBringsNone() {
        OreBlocks o = new OreBlocks();
        o.seed(9);
        due(o.drift(9), 9);
        int seed = o.told(15);
        o.seed(9);
        due(o.drift(9), 9);
        due(o.told(15), seed);
        due(o.told(14), 9);
    }

    @Sentence(promise = 18, value = "OUTSIDE.")
    static void driftIsOf1To10() {
        dueBounds(n -> new OreBlocks().drift(n), 1, 10, OUTSIDE);
        dueBounds(n -> Grounds.ten().drift(n), 1, 10, OUTSIDE);
    }

    // ---- undo

    @Sentence(promise = 19, value = "The n latest (1 .. 16) are undone: how many can be then.")
    static void oneToSixteenAreUndone() {
        for (int n = 1; n <= 16; n++) {
            OreBlocks o = Grounds.one(0, 0, 0);
            for (int g = 1; g <= 16; g++) o.grade(0, g);
            due(o.undo(n), 16 - n);
            due(o.at(0, 2), 16 - n);
            due(o.told(14), 16 - n);
        }
    }

    @Sentence(promise = 19, value = "OUTSIDE, NOT: not so many.")
    static void undoIsOf1To16() {
        OreBlocks o = new OreBlocks();
        due(o.undo(0), OUTSIDE);
        due(o.undo(1), NOT);
        due(o.undo(16), NOT);
        due(o.undo(17), OUTSIDE);
        for (int k = 0; k < 16; k++) o.metric(1);
        dueEach(n -> o.undo(17 + n), OUTSIDE, OUTSIDE);
        due(o.undo(-1), OUTSIDE);
        due(o.undo(LEAST), OUTSIDE);
        due(o.undo(GREATEST), OUTSIDE);
        due(o.undo(16), 0);
    }

    @Sentence(promise = 19, value = "OUTSIDE, NOT: not so many.")
    static void oneMoreThanThereAreIsNotUndone() {
        for (int deeds = 0; deeds < 16; deeds++) {
            OreBlocks o = new OreBlocks();
            for (int k = 0; k < deeds; k++) o.metric(1);
            due(o.undo(deeds + 1), NOT);
            due(o.told(1), deeds == 0 ? 0 : 1);
            due(o.told(14), deeds);
            if (deeds > 0) due(o.undo(deeds), 0);
            due(o.told(1), 0);
        }
    }

    // ---- write

    @Sentence(promise = 20, value = "An entry behind THE BOOK (a PLACE, GRADE cut, or NONE; any): how many.")
    static void anyNumberMayBeWritten() {
        OreBlocks o = Grounds.three();
        due(o.write(10, 10, 100), 1);
        due(o.write(31, 31, LEAST), 2);
        due(o.told(13), 1);
        due(o.write(0, 0, GREATEST), 3);
        due(o.write(0, 0, NONE), 4);
        due(o.write(0, 0, UNKNOWN), 5);
        due(o.write(0, 0, -2), 6);
        due(o.told(12), 6);
    }

    @Sentence(promise = 20, value = "OUTSIDE, FULL (20).")
    static void entriesAreOfPlaces() {
        dueBounds(x -> new OreBlocks().write(x, 0, 0), 0, 31, OUTSIDE);
        dueBounds(y -> new OreBlocks().write(0, y, 0), 0, 31, OUTSIDE);
    }

    @Sentence(promise = 20, value = "OUTSIDE, FULL (20).")
    static void theBookIsFullOf20() {
        OreBlocks o = new OreBlocks();
        for (int n = 1; n <= 20; n++) due(o.write(31, 31, NONE), n);
        due(o.write(31, 31, NONE), FULL);
        due(o.write(31, 31, LEAST), FULL);
        due(o.write(31, 32, NONE), OUTSIDE);
        due(o.told(12), 20);
        due(o.told(13), NONE);
    }

    // ---- tear

    @Sentence(promise = 21, value = "No BOOK: how much it had.")
    static void anEmptyAndAFullBookAreTorn() {
        OreBlocks o = new OreBlocks();
        due(o.tear(), 0);
        for (int round = 0; round < 3; round++) {
            for (int n = 1; n <= 20; n++) due(o.write(0, 0, 5), n);
            due(o.told(13), 0);
            due(o.tear(), 20);
            due(o.told(12), 0);
            due(o.told(13), NONE);
            due(o.tear(), 0);
        }
    }

    // ---- seed

    @Sentence(promise = 22, value = "THE SEED becomes v (0 .. 2147483647): what it was.")
    static void theSeedGoesFrom0ToTheGreatest() {
        OreBlocks o = new OreBlocks();
        due(o.seed(GREATEST), 0);
        due(o.seed(0), GREATEST);
        due(o.seed(1), 0);
        due(o.told(15), 1);
    }

    @Sentence(promise = 22, value = "OUTSIDE.")
    static void noSeedIsBelow0() {
        OreBlocks o = new OreBlocks();
        dueBounds(o::seed, 0, GREATEST, OUTSIDE);
        due(o.told(15), GREATEST);
    }

    // ---- keep

    @Sentence(promise = 23, value = "IMAGE i becomes what is so (nothing can be undone then): 1.")
    static void nothingCanBeUndoneOfAnImage() {
        OreBlocks o = new OreBlocks();
        for (int k = 0; k < 20; k++) o.metric(1);
        due(o.keep(0), 1);
        due(o.told(14), 0);
        due(o.undo(1), NOT);
        o.metric(0);
        due(o.undo(1), 0);
        due(o.told(1), 1);
        // An image of nothing is one too, and may be kept again.
        OreBlocks p = new OreBlocks();
        due(p.keep(1), 1);
        due(p.keep(1), 1);
        p.sample(0, 0, 0);
        due(p.goBack(1), 1);
        due(p.told(0), 0);
        due(p.goBack(0), NOT);
    }

    @Sentence(promise = 23, value = "UNKNOWN.")
    static void thereAreImages0And1() {
        OreBlocks o = new OreBlocks();
        dueBounds(o::keep, 0, 1, UNKNOWN);
        OreBlocks p = Grounds.three();
        due(p.keep(2), UNKNOWN);
        due(p.told(14), 3);
    }

    // ---- goBack

    @Sentence(promise = 24, value = "What is so becomes IMAGE i (nothing can be undone then): 1.")
    static void nothingCanBeUndoneOfGoingBack() {
        OreBlocks o = Grounds.ten();
        o.keep(0);
        for (int k = 0; k < 10; k++) o.take(0);
        due(o.goBack(0), 1);
        due(o.told(0), 10);
        due(o.told(14), 0);
        due(o.undo(1), NOT);
        // The image stays, whatever is done to what it became.
        for (int k = 0; k < 10; k++) o.take(0);
        o.sample(31, 31, 31);
        due(o.undo(1), 10);
        due(o.goBack(0), 1);
        due(o.goBack(0), 1);
        for (int i = 0; i < 10; i++) due(o.at(i, 2), 10 * i);
    }

    @Sentence(promise = 24, value = "UNKNOWN, NOT: it was not kept.")
    static void noGoingBackToWhatWasNotKept() {
        OreBlocks o = Grounds.three();
        due(o.goBack(0), NOT);
        due(o.goBack(1), NOT);
        due(o.told(14), 3);
        o.keep(0);
        due(o.goBack(1), NOT);
        due(o.goBack(0), 1);
        o.keep(1);
        dueBounds(o::goBack, 0, 1, UNKNOWN);
    }
}
