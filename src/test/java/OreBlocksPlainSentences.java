import java.io.IOException;
import java.nio.file.Files;
import java.nio.file.Path;
import java.util.ArrayList;
import java.util.List;
import java.util.Random;

/**
 * What the document says of guesses where it names no edge, and the headings of its interface.
 * Guesses are held to their equations by what the class itself tells of weights and distances.
 */
public final class OreBlocksPlainSentences extends Sentences {
    private static final int GROUNDS = 300;
    private static final int SIDE = 7;
    private static final Path SOURCE = Path.of("src/main/java/OreBlocks.java");

    public static void main(String[] args) throws Exception {
        run(OreBlocksPlainSentences.class, 6, 10);
    }

    // ---- what it is

    @Sentence("weights, that sum to one, by which the guess is as sure as can be, told in fractions")
    static void noOtherWeightsMakeAGuessSurer() {
        for (Seen seen : someGuesses()) {
            due(seen.unsureness(seen.weights).compare(seen.spread), 0);
            for (int from = 0; from < seen.count(); from++) {
                for (int to = 0; to < seen.count(); to++) {
                    if (from == to) continue;
                    Frac[] others = seen.weights.clone();
                    others[from] = others[from].minus(fraction(1, 7));
                    others[to] = others[to].plus(fraction(1, 7));
                    due(seen.unsureness(others).compare(seen.spread), 1);
                }
            }
        }
    }

    // ---- guesses

    @Sentence("A GUESS for a PLACE: of the SAMPLES LOOKED AT from it WEIGHTS (FRACTIONS) and a FLOOR, such that all WEIGHTS together are 1, and for each SAMPLE i")
    static void guessesKeepTheirEquations() {
        for (Seen seen : someGuesses()) {
            Frac all = Frac.ZERO;
            for (int i = 0; i < seen.count(); i++) {
                Frac sum = seen.floor;
                for (int j = 0; j < seen.count(); j++) sum = sum.plus(seen.weights[j].times(seen.between[i][j]));
                due(sum.compare(seen.toPlace[i]), 0);
                all = all.plus(seen.weights[i]);
            }
            due(all.compare(Frac.ONE), 0);
        }
    }

    @Sentence("for each k from 1 to how many are LOOKED AT, of the first k of them: the determinant of the table of their UNLIKE ones, with a row and a column more, of ones, and 0 where these meet, is above 0, if k is even, below 0, if k is odd.")
    static void soundIsToldByDeterminants() {
        int[] met = new int[2];
        for (Seen seen : someSeen()) {
            int sound = seen.isSound() ? 1 : 0;
            met[sound]++;
            due(seen.toldSound, sound);
        }
        due(met[0] > 10 && met[1] > 10 ? 1 : 0, 1);
    }

    // ---- the headings of the interface

    @Sentence("Ahead of the calls `told`, `at`, `unlike`, `place`, `looked`, `guess`, `weight`, `block`, `error`, `hole` the interface says: ---- what is so.")
    static void whatIsSoStandsAheadOfItsCalls() throws IOException {
        dueUnder("what is so", "told", "at", "unlike", "place", "looked", "guess", "weight", "block", "error", "hole");
    }

    @Sentence("Ahead of the calls `sample`, `take`, `grade`, `pieces`, `search`, `metric`, `drift`, `undo` the interface says: ---- deeds.")
    static void deedsStandAheadOfTheirCalls() throws IOException {
        dueUnder("deeds", "sample", "take", "grade", "pieces", "search", "metric", "drift", "undo");
    }

    @Sentence("Ahead of the calls `write`, `tear` the interface says: ---- the book.")
    static void theBookStandsAheadOfItsCalls() throws IOException {
        dueUnder("the book", "write", "tear");
    }

    @Sentence("Ahead of the calls `seed`, `keep`, `goBack` the interface says: ---- images.")
    static void imagesStandAheadOfTheirCalls() throws IOException {
        dueUnder("images", "seed", "keep", "goBack");
    }

    // ---- promises 6 to 10, worked out by hand

    @Sentence(promise = 6, value = "The i-th SAMPLE LOOKED AT from a PLACE; NONE: not so many.")
    static void lookedTellsThemInTheirOrder() {
        OreBlocks o = Grounds.three();
        dueEach(i -> o.looked(11, 11, i), 0, 1, 2, NONE);
        dueEach(i -> o.looked(11, 12, i), 2, 0, 1, NONE);
        dueEach(i -> o.looked(12, 11, i), 1, 0, 2, NONE);
    }

    @Sentence(promise = 7, value = "Of the GUESS for a PLACE: what = 0, 1 GRADE, 2, 3 SPREAD, 4, 5 FLOOR (ABOVE, BELOW).")
    static void guessTellsGradeSpreadAndFloor() {
        OreBlocks o = withNugget();
        // Unlike to the place 5, 5, 7; apart 5, 7, 11: weights 29, 65, 45 by 139, floor 55 by 139.
        dueEach(what -> o.guess(11, 11, what), 29400, 139, 840, 139, 55, 139);
    }

    @Sentence(promise = 8, value = "WEIGHT of the i-th SAMPLE LOOKED AT in the GUESS for a PLACE: what = 0 ABOVE, 1 BELOW.")
    static void weightIsOfTheOneLookedAtNotOfTheNumber() {
        OreBlocks o = withNugget();
        dueEach(i -> o.weight(11, 11, i, 0), 29, 65, 45);
        dueEach(i -> o.weight(11, 11, i, 1), 139, 139, 139);
        // Looked at are 2, 0 and 1: unlike to the place 4, 6, 6; apart 6, 10, 4.
        OreBlocks p = Grounds.three();
        dueEach(i -> p.weight(11, 12, i, 0), 2, -1, 1);
        dueEach(i -> p.weight(11, 12, i, 1), 3, 6, 2);
    }

    @Sentence(promise = 9, value = "Of the GUESS for a BLOCK: what = 0, 1 GRADE, 2, 3 SPREAD (ABOVE, BELOW).")
    static void blockTellsGradeAndSpread() {
        OreBlocks o = Grounds.three();
        // Unlike to the four 2, 4, 6, each a fourth; apart 4, 6, 10: weights 7, 3, 2 by 12, floor 0.
        dueEach(what -> o.block(10, 10, what), 475, 3, 7, 6);
    }

    @Sentence(promise = 10, value = "ERROR of a SAMPLE: what = 0 ABOVE, 1 BELOW.")
    static void errorTellsHowFarOff() {
        OreBlocks o = withNugget();
        // Guessed from the others: 2650 by 11, 800 by 7, 110.
        dueEach(what -> o.error(0, what), 1550, 11);
        dueEach(what -> o.error(1, what), -600, 7);
        dueEach(what -> o.error(2, what), -190, 1);
    }

    private static OreBlocks withNugget() {
        OreBlocks o = Grounds.three();
        o.pieces(1, 2, 5, 1, 12);
        return o;
    }

    private static Frac fraction(long above, long below) {
        return Frac.of(above).by(Frac.of(below));
    }

    // ---- grounds and guesses by chance

    private static List<Seen> someSeen() {
        List<Seen> all = new ArrayList<>();
        // One source for all: sources of neighbouring seeds begin nearly alike.
        Random random = new Random(GROUNDS);
        for (int number = 0; number < GROUNDS; number++) {
            all.add(new Seen(someGround(random), random.nextInt(SIDE), random.nextInt(SIDE)));
        }
        return all;
    }

    private static List<Seen> someGuesses() {
        List<Seen> all = someSeen().stream().filter(seen -> seen.weights != null).toList();
        due(all.size() > GROUNDS / 2 ? 1 : 0, 1);
        return all;
    }

    private static OreBlocks someGround(Random random) {
        OreBlocks o = new OreBlocks();
        o.metric(random.nextInt(2));
        int steep = 1 + random.nextInt(9);
        int nugget = random.nextInt(4) == 0 ? random.nextInt(10) : 0;
        o.pieces(nugget, steep, 1 + random.nextInt(10), random.nextInt(steep + 1), 10 + random.nextInt(11));
        if (random.nextBoolean()) o.search(1 + random.nextInt(4), 1 + random.nextInt(4), 4 + random.nextInt(59));
        // Crowded, they stand at corners of rectangles; those are not sound by one straight piece.
        int side = new int[] {2, 3, SIDE}[random.nextInt(3)];
        for (int n = 3 + random.nextInt(8); n > 0; n--) o.sample(random.nextInt(side), random.nextInt(side), random.nextInt(1000));
        return o;
    }

    /** What the class tells of a place, asked for once: an object answers 512 calls. */
    private static final class Seen {
        final int toldSound;
        final Frac[] toPlace;
        final Frac[][] between;
        /** None, if there is no guess. */
        final Frac[] weights;
        final Frac floor;
        final Frac spread;

        Seen(OreBlocks o, int x, int y) {
            int count = o.place(x, y, 1);
            boolean isGuessed = o.place(x, y, 3) == 1;
            toldSound = o.place(x, y, 4);
            toPlace = new Frac[count];
            between = new Frac[count][count];
            weights = isGuessed ? new Frac[count] : null;
            floor = isGuessed ? fraction(o.guess(x, y, 4), o.guess(x, y, 5)) : null;
            spread = isGuessed ? fraction(o.guess(x, y, 2), o.guess(x, y, 3)) : null;
            for (int i = 0; i < count; i++) {
                int a = o.looked(x, y, i);
                toPlace[i] = unlikeApart(o, o.at(a, 0) - x, o.at(a, 1) - y);
                for (int j = 0; j < count; j++) {
                    int b = o.looked(x, y, j);
                    between[i][j] = unlikeApart(o, o.at(a, 0) - o.at(b, 0), o.at(a, 1) - o.at(b, 1));
                }
                if (isGuessed) weights[i] = fraction(o.weight(x, y, i, 0), o.weight(x, y, i, 1));
            }
        }

        private static Frac unlikeApart(OreBlocks o, int apartX, int apartY) {
            int inX = Math.abs(apartX), inY = Math.abs(apartY);
            return Frac.of(o.unlike(o.told(1) == 0 ? inX + inY : Math.max(inX, inY)));
        }

        int count() {
            return toPlace.length;
        }

        /** How far off, squared, such a guess is to be: twice to the place, less among themselves. */
        Frac unsureness(Frac[] any) {
            Frac sum = Frac.ZERO;
            for (int i = 0; i < count(); i++) {
                sum = sum.plus(Frac.of(2).times(any[i]).times(toPlace[i]));
                for (int j = 0; j < count(); j++) sum = sum.minus(any[i].times(any[j]).times(between[i][j]));
            }
            return sum;
        }

        boolean isSound() {
            for (int k = 1; k <= count(); k++) {
                Frac[][] table = new Frac[k + 1][k + 1];
                for (int i = 0; i <= k; i++) {
                    for (int j = 0; j <= k; j++) {
                        if (i < k && j < k) table[i][j] = between[i][j];
                        else table[i][j] = i == j ? Frac.ZERO : Frac.ONE;
                    }
                }
                if (determinant(table, 0, 0).compare(Frac.ZERO) != (k % 2 == 0 ? 1 : -1)) return false;
            }
            return true;
        }

        /** Along the rows from this one on, by the columns that are not used yet. */
        private static Frac determinant(Frac[][] table, int row, int used) {
            if (row == table.length) return Frac.ONE;
            Frac sum = Frac.ZERO;
            boolean isAdded = true;
            for (int column = 0; column < table.length; column++) {
                if ((used >> column & 1) != 0) continue;
                Frac term = table[row][column].times(determinant(table, row + 1, used | 1 << column));
                sum = isAdded ? sum.plus(term) : sum.minus(term);
                isAdded = !isAdded;
            }
            return sum;
        }
    }

    // ---- headings

    /** Of all headings of the source the one next ahead of each call is the one that is due. */
    private static void dueUnder(String heading, String... calls) throws IOException {
        List<String> above = new ArrayList<>();
        String last = "";
        for (String line : Files.readAllLines(SOURCE)) {
            String text = line.trim();
            if (text.startsWith("// ---- ")) last = text.substring("// ---- ".length());
            for (String call : calls) if (text.matches("public (int|long) " + call + "\\(.*")) above.add(last);
        }
        due(above.size(), calls.length);
        for (String found : above) due(found.equals(heading) ? 1 : 0, 1);
    }
}
