/** Promises 14 to 18 and 20: the phases, and the least feud by them. */
public final class PhasesTest {
    private static final Class<? extends RuntimeException> INDEX = IndexOutOfBoundsException.class;
    private static final Class<? extends RuntimeException> ARGUMENT = IllegalArgumentException.class;
    private static final Class<? extends RuntimeException> NONE = java.util.NoSuchElementException.class;

    public static void main(String[] args) {
        phases();
        ring();
        ties();
        mergedWithoutOrder();
        mergedAheadOfAnother();
        askedFirst();
        least();
        faults();
        Due.end();
    }

    private static void phases() {
        VillageFeud x = new VillageFeud();
        for (int households = 0; households <= 9; households++) {
            Due.is(Math.max(0, households - 1), x::phases);
            if (households < 9) {
                x.household();
            }
        }
    }

    private static void ring() {
        VillageFeud x = Villages.ring();
        isPhase(x, 0, new int[] {6, 4, 3, 2, 8}, new int[] {0, 1, 2, 3}, new int[] {0, 5, 3, 6});
        isPhase(x, 1, new int[] {5, 3, 2, 1, 12}, new int[] {0, 1, 2}, new int[] {0, 5, 5});
        isPhase(x, 2, new int[] {7, 2, 1, 0, 14}, new int[] {0, 1}, new int[] {0, 7});
    }

    /** Without any bond the lowest ones join first. */
    private static void ties() {
        VillageFeud x = Villages.of(4, "");
        isPhase(x, 0, new int[] {0, 4, 3, 2, 8}, new int[] {0, 1, 2, 3}, new int[] {0, 0, 0, 0});
        isPhase(x, 1, new int[] {0, 3, 2, 1, 12}, new int[] {0, 1, 2}, new int[] {0, 0, 0});
        isPhase(x, 2, new int[] {0, 2, 1, 0, 14}, new int[] {0, 1}, new int[] {0, 0});
        VillageFeud y = Villages.of(4, "01=3 02=3 03=3 23=1");
        isPhase(y, 0, new int[] {4, 4, 3, 2, 8}, new int[] {0, 1, 2, 3}, new int[] {0, 3, 3, 4});
    }

    /** The groups 1 and 4 join last, and stand at 1 from then on, with what both were tied. */
    private static void mergedWithoutOrder() {
        VillageFeud x = Villages.of(5, "02=9 03=8 23=1 04=2 14=3 12=1");
        isPhase(x, 0, new int[] {4, 5, 1, 4, 2}, new int[] {0, 2, 3, 4, 1},
                new int[] {0, 9, 9, 2, 4});
        isPhase(x, 1, new int[] {3, 4, 1, 3, 18}, new int[] {0, 2, 3, 1}, new int[] {0, 9, 9, 3});
        isPhase(x, 2, new int[] {11, 3, 2, 1, 4}, new int[] {0, 1, 2}, new int[] {0, 10, 11});
        isPhase(x, 3, new int[] {19, 2, 1, 0, 30}, new int[] {0, 1}, new int[] {0, 19});
        Due.is("0<2<3<14=3", () -> Villages.phase(x, 1));
        Due.is(3, x::least);
        Due.is(1, x::met);
    }

    /** The groups 2 and 3 are merged, and as one they join ahead of 1; 3 is no group any more. */
    private static void mergedAheadOfAnother() {
        VillageFeud x = Villages.of(4, "01=3 02=2 03=2 23=5");
        isPhase(x, 0, new int[] {7, 4, 3, 2, 8}, new int[] {0, 1, 2, 3}, new int[] {0, 3, 2, 7});
        isPhase(x, 1, new int[] {3, 3, 1, 2, 2}, new int[] {0, 2, 1}, new int[] {0, 4, 3});
        isPhase(x, 2, new int[] {7, 2, 1, 0, 14}, new int[] {0, 1}, new int[] {0, 7});
        Due.is("0<23<1=3", () -> Villages.phase(x, 1));
    }

    /** Each of these is the first call that asks for phases at all. */
    private static void askedFirst() {
        Due.is(5, () -> Villages.ring().phaseOf(1, 0));
        Due.is(3, () -> Villages.ring().joined(0, 3));
        Due.is(6, () -> Villages.ring().tieAt(0, 3));
        Due.is(7, () -> Villages.ring().tellPhase(2));
        Due.is(5, () -> Villages.ring().part());
    }

    private static void isPhase(VillageFeud x, int phase, int[] numbers, int[] joined, int[] ties) {
        for (int what = 0; what < numbers.length; what++) {
            int of = what;
            Due.is(numbers[what], () -> x.phaseOf(phase, of));
        }
        for (int place = 0; place < joined.length; place++) {
            int at = place;
            Due.is(joined[place], () -> x.joined(phase, at));
            Due.is(ties[place], () -> x.tieAt(phase, at));
        }
        Due.fails(NONE, () -> x.joined(phase, joined.length));
        Due.fails(NONE, () -> x.tieAt(phase, joined.length));
    }

    private static void least() {
        Due.is(5, () -> Villages.ring().least());
        Due.is(1, () -> Villages.ring().met());
        Due.is(2, () -> Villages.crowds().least());
        Due.is(0, () -> Villages.of(2, "").least());
        Due.is(0, () -> Villages.of(2, "").met());
        Due.is(99, () -> Villages.of(2, "01=99").least());
        VillageFeud x = Villages.of(3, "01=4 12=4");
        Due.is(4, x::least);
        Due.is(0, x::met);
        Due.is(0, () -> Villages.of(4, "01=3 12=3").least());
    }

    private static void faults() {
        VillageFeud x = Villages.ring();
        Due.fails(INDEX, () -> x.phaseOf(3, 0));
        Due.fails(INDEX, () -> x.phaseOf(-1, 0));
        Due.fails(INDEX, () -> x.phaseOf(3, 5));
        Due.fails(ARGUMENT, () -> x.phaseOf(2, 5));
        Due.fails(ARGUMENT, () -> x.phaseOf(0, -1));
        Due.fails(INDEX, () -> x.joined(3, 0));
        Due.fails(INDEX, () -> x.joined(-1, -1));
        Due.fails(NONE, () -> x.joined(0, 4));
        Due.fails(NONE, () -> x.joined(0, -1));
        Due.fails(NONE, () -> x.joined(1, 3));
        Due.fails(NONE, () -> x.joined(1, Integer.MAX_VALUE));
        Due.fails(INDEX, () -> x.tieAt(3, 0));
        Due.fails(INDEX, () -> x.tieAt(-1, -1));
        Due.fails(NONE, () -> x.tieAt(0, 4));
        Due.fails(NONE, () -> x.tieAt(0, -1));
        Due.fails(NONE, () -> x.tieAt(2, 2));
        for (int households = 0; households < 2; households++) {
            VillageFeud y = Villages.of(households, "");
            Due.fails(INDEX, () -> y.phaseOf(0, 0));
            Due.fails(INDEX, () -> y.joined(0, 0));
            Due.fails(INDEX, () -> y.tieAt(0, 0));
            Due.fails(NONE, y::least);
            Due.fails(NONE, y::met);
        }
    }
}
