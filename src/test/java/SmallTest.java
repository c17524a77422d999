import java.util.Arrays;

/** All villages of up to four households with bonds of the weights 0 to 2, answered as by the model. */
public final class SmallTest {
    private static final int MOST = 4;
    private static final int WEIGHTS = 3;

    private final VillageFeud village = new VillageFeud();
    private final Model model = new Model();
    private final int size;

    private SmallTest(int size, int[] weights) {
        this.size = size;
        for (int household = 0; household < size; household++) {
            village.household();
            model.household();
        }
        int next = 0;
        for (int one = 0; one < size; one++) {
            for (int other = one + 1; other < size; other++) {
                if (weights[next] > 0) {
                    village.bond(other, one, weights[next]);
                    model.bond(one, other, weights[next]);
                }
                next++;
            }
        }
    }

    public static void main(String[] args) {
        for (int size = 0; size <= MOST; size++) {
            int[] weights = new int[size * (size - 1) / 2];
            do {
                askAll(size, weights);
            } while (isNext(weights) && Due.wrong() == 0);
        }
        Due.end();
    }

    /** Counts on, as with digits; false after the last one. */
    private static boolean isNext(int[] weights) {
        for (int place = 0; place < weights.length; place++) {
            weights[place] = (weights[place] + 1) % WEIGHTS;
            if (weights[place] != 0) {
                return true;
            }
        }
        return false;
    }

    private static void askAll(int size, int[] weights) {
        SmallTest test = new SmallTest(size, weights);
        test.askPhases();
        if (size > 1) {
            test.askLeast();
        }
        new SmallTest(size, weights).askPairs();
        new SmallTest(size, weights).askOrders();
        if (size > 0) {
            new SmallTest(size, weights).askMoves();
        }
        if (Due.wrong() > 0) {
            System.out.println(size + " households, with the bonds " + Arrays.toString(weights));
        }
    }

    private void askPhases() {
        Due.is(model.phases(), village::phases);
        for (int each = 0; each < size - 1; each++) {
            int phase = each;
            for (int number = 0; number <= 4; number++) {
                int what = number;
                Due.is(model.phaseOf(phase, what), () -> village.phaseOf(phase, what));
            }
            for (int joining = 0; joining < size - phase; joining++) {
                int place = joining;
                Due.is(model.joined(phase, place), () -> village.joined(phase, place));
                Due.is(model.tieAt(phase, place), () -> village.tieAt(phase, place));
            }
        }
    }

    private void askLeast() {
        Due.is(model.least(), village::least);
        Due.is(model.leastAgain(), village::leastAgain);
        Due.is(model.met(), village::met);
        Due.is(model.leastSides(), village::leastSides);
        Due.is(model.part(), village::part);
        Due.is(model.account(4), () -> village.account(4));
        for (int each = 0; each < size; each++) {
            int household = each;
            Due.is(model.householdOf(household, 0), () -> village.householdOf(household, 0));
        }
    }

    private void askPairs() {
        Due.is(true, village::isTold);
        for (int ones = 0; ones < size; ones++) {
            for (int others = 0; others < size; others++) {
                int one = ones;
                int other = others;
                if (one != other) {
                    Due.is(model.between(one, other), () -> village.between(one, other));
                    Due.is(model.between(one, other), () -> village.betweenAgain(one, other));
                }
                if (one != other && model.weight(one, other) > 0) {
                    Due.is(model.isCritical(one, other), () -> village.isCritical(one, other));
                } else if (one != other) {
                    Due.is(model.ifBond(one, other, 1), () -> village.ifBond(one, other, 1));
                }
            }
        }
    }

    private void askOrders() {
        Due.is(model.parts(), village::parts);
        for (int each = 0; each < size; each++) {
            int place = each;
            Due.is(model.partOf(place), () -> village.partOf(place));
            for (int order = 0; order <= 3; order++) {
                int kind = order;
                Due.is(model.ranked(kind, place), () -> village.ranked(kind, place));
            }
        }
        for (int each = 0; each < model.account(1); each++) {
            int index = each;
            Due.is(model.bondAt(index), () -> village.bondAt(index));
        }
    }

    /** Each move in turn gives each division, or the one with both sides changed. */
    private void askMoves() {
        for (int turn = 1; turn < 1 << (size - 1); turn++) {
            int mover = Integer.numberOfTrailingZeros(turn);
            int side = 1 - model.householdOf(mover, 0);
            Due.is(model.stand(mover, side), () -> village.stand(mover, side));
            Due.is(model.feud(), village::feud);
            Due.is(model.feud(), village::feudAgain);
            Due.is(model.bestMove(), village::bestMove);
            for (int each = 0; each < size; each++) {
                int household = each;
                Due.is(model.ifMoved(household), () -> village.ifMoved(household));
                Due.is(model.ranked(2, household), () -> village.ranked(2, household));
            }
        }
    }
}
