/** The sentences of the promises 14 to 18 and 20: the phases, and the least feud by them. */
final class SentencesOfPhases extends Sentences {
    private static final Made EMPTY = VillageFeud::new;
    private static final Made LONELY = () -> Villages.of(1, "");
    private static final Made TWO = () -> Villages.of(2, "01=99");
    private static final Made RING = Villages::ring;
    private static final Made FULL = Villages::full;

    private SentencesOfPhases() {
    }

    static void tell() {
        phases();
        phaseOf();
        phaseOfThrows();
        joined();
        tieAt();
        least();
        met();
    }

    private static void phases() {
        part("Promise 14");
        holds("Returns how many phases there are.", () -> {
            Due.is(3, () -> Villages.ring().phases());
            Due.is(5, () -> Villages.crowds().phases());
            Due.is(3, () -> Villages.of(4, "").phases());
        });
        holds("Returns how many.", () -> {
            Due.is(0, () -> new VillageFeud().phases());
            Due.is(0, () -> Villages.of(1, "").phases());
            Due.is(1, () -> Villages.of(2, "").phases());
            Due.is(8, () -> Villages.of(9, "").phases());
            Due.is(8, () -> Villages.full().phases());
        });
    }

    private static void phaseOf() {
        part("Promise 15");
        holds("Returns a number of a phase.", () -> {
            int[] due = {99, 2, 1, 0, 2};
            for (int what = 0; what <= 4; what++) {
                int of = what;
                Due.is(due[what], () -> TWO.village().phaseOf(0, of));
            }
        });
        holds("`what`: 0 for its cut", () -> {
            Due.is(6, () -> Villages.ring().phaseOf(0, 0));
            Due.is(0, () -> Villages.of(9, "").phaseOf(7, 0));
            Due.is(9, () -> Villages.full().phaseOf(0, 1));
            Due.is(2, () -> Villages.full().phaseOf(7, 1));
            Due.is(2, () -> Villages.ring().phaseOf(1, 2));
            Due.is(1, () -> Villages.ring().phaseOf(2, 2));
            Due.is(1, () -> Villages.ring().phaseOf(1, 3));
            Due.is(0, () -> Villages.ring().phaseOf(2, 3));
            Due.is(8, () -> Villages.ring().phaseOf(0, 4));
            Due.is(12, () -> Villages.ring().phaseOf(1, 4));
            Due.is(14, () -> Villages.ring().phaseOf(2, 4));
            Due.is(256, () -> Villages.full().phaseOf(0, 4));
            Due.is(510, () -> Villages.full().phaseOf(7, 4));
            // the group of 1 and 4 joined ahead of the last one, and is told by its lowest household
            VillageFeud x = Villages.of(5, "02=9 03=8 23=1 04=2 14=3 12=1");
            Due.is(1, () -> x.phaseOf(2, 3));
            Due.is(2, () -> x.phaseOf(2, 2));
        });
        holds("Returns the number.", () -> {
            for (int phase = 0; phase < 8; phase++) {
                int of = phase;
                Due.is(9 - phase, () -> Villages.of(9, "").phaseOf(of, 1));
                Due.is(8 - phase, () -> Villages.of(9, "").phaseOf(of, 2));
                Due.is(7 - phase, () -> Villages.of(9, "").phaseOf(of, 3));
                Due.is(511 & -(1 << 8 - phase), () -> Villages.of(9, "").phaseOf(of, 4));
            }
        });
    }

    /** No village has these phases: they are below 0, or there are as many or more. */
    private static void noSuchPhase(java.util.function.BiFunction<VillageFeud, Integer, Object> call) {
        for (int nowhere : NOWHERE) {
            thrown(FULL, INDEX, x -> call.apply(x, nowhere));
            thrown(EMPTY, INDEX, x -> call.apply(x, nowhere));
        }
        thrown(EMPTY, INDEX, x -> call.apply(x, 0));
        thrown(LONELY, INDEX, x -> call.apply(x, 0));
        thrown(TWO, INDEX, x -> call.apply(x, 1));
        thrown(RING, INDEX, x -> call.apply(x, 3));
        thrown(FULL, INDEX, x -> call.apply(x, 8));
    }

    private static void phaseOfThrows() {
        holds("Throws `IndexOutOfBoundsException`", () -> {
            noSuchPhase((x, phase) -> x.phaseOf(phase, 0));
            noSuchPhase((x, phase) -> x.phaseOf(phase, 4));
            noSuchPhase((x, phase) -> x.phaseOf(phase, 5));
            noSuchPhase((x, phase) -> x.phaseOf(phase, -1));
        });
        holds("Throws `IllegalArgumentException`", () -> {
            for (int nowhere : NOWHERE) {
                thrown(FULL, ARGUMENT, x -> x.phaseOf(0, nowhere));
                thrown(FULL, ARGUMENT, x -> x.phaseOf(7, nowhere));
            }
            thrown(TWO, ARGUMENT, x -> x.phaseOf(0, 5));
            thrown(TWO, ARGUMENT, x -> x.phaseOf(0, -1));
        });
    }

    private static void joined() {
        part("Promise 16");
        holds("Returns a group by when it joined in a phase.", () -> {
            int[] due = {0, 2, 3, 1};
            VillageFeud x = Villages.of(5, "02=9 03=8 23=1 04=2 14=3 12=1");
            for (int place = 0; place < 4; place++) {
                int at = place;
                Due.is(due[place], () -> x.joined(1, at));
            }
        });
        holds("`place`: its place, from 0 for the first one", () -> {
            for (int phase = 0; phase < 8; phase++) {
                int of = phase;
                Due.is(0, () -> Villages.full().joined(of, 0));
            }
            Due.is(8, () -> Villages.full().joined(0, 8));
            Due.is(1, () -> Villages.full().joined(7, 1));
        });
        holds("Returns its lowest household.", () -> {
            Due.is(2, () -> Villages.ring().joined(1, 2));
            Due.is(1, () -> Villages.ring().joined(2, 1));
            Due.is(1, () -> TWO.village().joined(0, 1));
        });
        holds("Throws `IndexOutOfBoundsException`", () -> {
            noSuchPhase((x, phase) -> x.joined(phase, 0));
            noSuchPhase((x, phase) -> x.joined(phase, 9));
            noSuchPhase((x, phase) -> x.joined(phase, -1));
        });
        holds("Throws `NoSuchElementException`", () -> {
            for (int nowhere : NOWHERE) {
                thrown(FULL, NONE, x -> x.joined(0, nowhere));
                thrown(FULL, NONE, x -> x.joined(7, nowhere));
            }
            for (int phase = 0; phase < 8; phase++) {
                int of = phase;
                thrown(FULL, NONE, x -> x.joined(of, 9 - of));
            }
            thrown(TWO, NONE, x -> x.joined(0, 2));
        });
    }

    private static void tieAt() {
        part("Promise 17");
        holds("Returns how much a group was tied with all that had joined", () -> {
            int[] due = {0, 9, 9, 3};
            VillageFeud x = Villages.of(5, "02=9 03=8 23=1 04=2 14=3 12=1");
            for (int place = 0; place < 4; place++) {
                int at = place;
                Due.is(due[place], () -> x.tieAt(1, at));
            }
        });
        holds("`place`: its place, from 0 for the first one, which was tied with 0", () -> {
            for (int phase = 0; phase < 8; phase++) {
                int of = phase;
                Due.is(0, () -> Villages.full().tieAt(of, 0));
            }
        });
        holds("Returns how much.", () -> {
            for (int place = 0; place < 9; place++) {
                int at = place;
                Due.is(place, () -> Villages.full().tieAt(0, at));
            }
            Due.is(8, () -> Villages.full().tieAt(7, 1));
            Due.is(99, () -> TWO.village().tieAt(0, 1));
            Due.is(0, () -> Villages.of(9, "").tieAt(7, 1));
        });
        holds("Throws `IndexOutOfBoundsException`", () -> {
            noSuchPhase((x, phase) -> x.tieAt(phase, 0));
            noSuchPhase((x, phase) -> x.tieAt(phase, 9));
            noSuchPhase((x, phase) -> x.tieAt(phase, -1));
        });
        holds("Throws `NoSuchElementException`", () -> {
            for (int nowhere : NOWHERE) {
                thrown(FULL, NONE, x -> x.tieAt(0, nowhere));
                thrown(FULL, NONE, x -> x.tieAt(7, nowhere));
            }
            for (int phase = 0; phase < 8; phase++) {
                int of = phase;
                thrown(FULL, NONE, x -> x.tieAt(of, 9 - of));
            }
            thrown(TWO, NONE, x -> x.tieAt(0, 2));
        });
    }

    private static void least() {
        part("Promise 18");
        holds("Returns the least feud: by phases.", () -> {
            Due.is(5, () -> Villages.ring().least());
            Due.is(2, () -> Villages.crowds().least());
            Due.is(3, () -> Villages.of(5, "02=9 03=8 23=1 04=2 14=3 12=1").least());
        });
        holds("Returns the least feud.", () -> {
            Due.is(0, () -> Villages.of(2, "").least());
            Due.is(1, () -> Villages.of(2, "01=1").least());
            Due.is(99, () -> TWO.village().least());
            Due.is(0, () -> Villages.of(9, "").least());
            Due.is(8, () -> Villages.full().least());
            VillageFeud married = Villages.of(3, "02=99 12=99");
            married.marry(0, 1);
            Due.is(198, married::least);
        });
        holds("Throws `NoSuchElementException`", () -> {
            thrown(EMPTY, NONE, VillageFeud::least);
            thrown(LONELY, NONE, VillageFeud::least);
            VillageFeud x = Villages.of(2, "01=5");
            x.marry(0, 1);
            Due.fails(NONE, x::least);
        });
    }

    private static void met() {
        part("Promise 20");
        holds("Returns the phase in which the least feud is met.", () -> {
            Due.is(1, () -> Villages.ring().met());
            // the cuts are 3, 3 and 2
            Due.is(2, () -> Villages.of(4, "01=2 12=3 23=3").met());
            Due.is(0, () -> Villages.full().met());
        });
        holds("Returns the phase.", () -> {
            Due.is(0, () -> Villages.of(2, "").met());
            Due.is(0, () -> Villages.of(9, "").met());
            // the two households of the least feud are the last ones that are merged
            Due.is(7, () -> Villages.of(9, "01=1 12=9 23=9 34=9 45=9 56=9 67=9 78=9").met());
        });
        holds("Throws `NoSuchElementException`", () -> {
            thrown(EMPTY, NONE, VillageFeud::met);
            thrown(LONELY, NONE, VillageFeud::met);
            VillageFeud x = Villages.of(2, "01=5");
            x.leave(1);
            Due.fails(NONE, x::met);
        });
    }
}
