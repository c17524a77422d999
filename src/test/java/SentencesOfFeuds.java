/** The sentences of the promises 19, 21 to 27 and 33: feuds by divisions, moves, trials. */
final class SentencesOfFeuds extends Sentences {
    private static final Made EMPTY = VillageFeud::new;
    private static final Made LONELY = () -> Villages.of(1, "");
    private static final Made TWO = () -> Villages.of(2, "01=99");
    private static final Made RING = Villages::ring;
    private static final Made FULL = Villages::full;

    private interface OfTwo {
        Object answer(VillageFeud village, int one, int other);
    }

    private SentencesOfFeuds() {
    }

    static void tell() {
        leastAgain();
        leastSides();
        between();
        betweenAgain();
        bestMove();
        ifMoved();
        ifBond();
        isCritical();
        isTold();
    }

    private static void leastAgain() {
        part("Promise 19");
        holds("Returns the same by a second way", () -> {
            Due.is(5, () -> Villages.ring().leastAgain());
            Due.is(2, () -> Villages.crowds().leastAgain());
            // the side 0 is empty in one division and the side 1 in another one: both would have 0
            Due.is(99, () -> TWO.village().leastAgain());
        });
        holds("Returns the least feud.", () -> {
            Due.is(0, () -> Villages.of(2, "").leastAgain());
            Due.is(1, () -> Villages.of(2, "01=1").leastAgain());
            Due.is(0, () -> Villages.of(9, "").leastAgain());
            Due.is(8, () -> Villages.full().leastAgain());
            for (int lighter = 0; lighter < 9; lighter++) {
                VillageFeud x = Villages.full();
                x.loosen(lighter, (lighter + 1) % 9);
                Due.is(7, x::leastAgain);
            }
        });
        holds("Throws `NoSuchElementException`", () -> {
            thrown(EMPTY, NONE, VillageFeud::leastAgain);
            thrown(LONELY, NONE, VillageFeud::leastAgain);
        });
    }

    private static void leastSides() {
        part("Promise 21");
        holds("Returns how many divisions of which no side is empty", () -> {
            Due.is(1, () -> Villages.of(2, "").leastSides());
            Due.is(1, () -> TWO.village().leastSides());
            Due.is(3, () -> Villages.of(3, "").leastSides());
            Due.is(255, () -> Villages.of(9, "").leastSides());
            Due.is(9, () -> Villages.full().leastSides());
        });
        holds("Returns how many.", () -> {
            Due.is(1, () -> Villages.ring().leastSides());
            Due.is(3, () -> Villages.of(3, "01=1 12=1 02=1").leastSides());
            Due.is(1, () -> Villages.of(9, "01=1 12=9 23=9 34=9 45=9 56=9 67=9 78=9").leastSides());
            Due.is(1, () -> Villages.of(9, "01=9 12=9 23=9 34=9 45=9 56=9 67=9 78=1").leastSides());
        });
        holds("Throws `NoSuchElementException`", () -> {
            thrown(EMPTY, NONE, VillageFeud::leastSides);
            thrown(LONELY, NONE, VillageFeud::leastSides);
        });
    }

    /** One of both is not there: below 0, or as many as there are or more. */
    private static void missing(OfTwo call) {
        for (int nowhere : NOWHERE) {
            thrown(FULL, INDEX, x -> call.answer(x, nowhere, 0));
            thrown(FULL, INDEX, x -> call.answer(x, 8, nowhere));
            thrown(FULL, INDEX, x -> call.answer(x, nowhere, nowhere));
        }
        thrown(EMPTY, INDEX, x -> call.answer(x, 0, 0));
        thrown(EMPTY, INDEX, x -> call.answer(x, 0, 1));
        thrown(LONELY, INDEX, x -> call.answer(x, 0, 1));
        thrown(LONELY, INDEX, x -> call.answer(x, 1, 0));
        thrown(TWO, INDEX, x -> call.answer(x, 2, 2));
        thrown(RING, INDEX, x -> call.answer(x, 4, 0));
        thrown(RING, INDEX, x -> call.answer(x, 3, 4));
    }

    /** Both are one, in a village of one household, and in a full one. */
    private static void same(Class<? extends RuntimeException> due, OfTwo call) {
        thrown(LONELY, due, x -> call.answer(x, 0, 0));
        thrown(FULL, due, x -> call.answer(x, 0, 0));
        thrown(FULL, due, x -> call.answer(x, 8, 8));
    }

    private static void hasFeudsOfTwo(OfTwo call) {
        Due.is(0, () -> call.answer(Villages.of(2, ""), 0, 1));
        Due.is(1, () -> call.answer(Villages.of(2, "01=1"), 1, 0));
        Due.is(99, () -> call.answer(TWO.village(), 0, 1));
        Due.is(0, () -> call.answer(Villages.of(9, "01=5 78=5"), 1, 7));
        Due.is(8, () -> call.answer(Villages.full(), 0, 8));
        Due.is(8, () -> call.answer(Villages.full(), 8, 0));
        Due.is(8, () -> call.answer(Villages.full(), 3, 4));
        VillageFeud married = Villages.of(3, "02=99 12=99");
        married.marry(0, 1);
        Due.is(198, () -> call.answer(married, 1, 0));
    }

    private static void between() {
        part("Promise 22");
        holds("Returns the feud between two households: by all divisions.", () -> {
            Due.is(7, () -> Villages.ring().between(0, 1));
            Due.is(6, () -> Villages.ring().between(3, 2));
            Due.is(2, () -> Villages.crowds().between(5, 0));
        });
        holds("Returns the feud.", () -> hasFeudsOfTwo(VillageFeud::between));
        holds("Throws `IndexOutOfBoundsException`", () -> missing(VillageFeud::between));
        holds("Throws `IllegalArgumentException`", () -> same(ARGUMENT, VillageFeud::between));
    }

    private static void betweenAgain() {
        part("Promise 23");
        holds("Returns the same by a second way", () -> {
            Due.is(7, () -> Villages.ring().betweenAgain(0, 1));
            Due.is(6, () -> Villages.ring().betweenAgain(3, 2));
            Due.is(2, () -> Villages.crowds().betweenAgain(5, 0));
            // what flows over the short way 0-1-2-3 has to give way to both longer ones
            Due.is(2, () -> Villages.of(6, "01=1 12=1 23=1 14=1 43=1 05=1 52=1").betweenAgain(0, 3));
            // the first flow from 1 to 2 is taken back, and 1 flows the other way over this bond
            Due.is(3, () -> Villages.of(8, "01=1 12=1 23=1 04=2 45=2 25=2 16=2 67=2 37=2")
                    .betweenAgain(0, 3));
        });
        holds("Returns the feud.", () -> hasFeudsOfTwo(VillageFeud::betweenAgain));
        holds("Throws `IndexOutOfBoundsException`", () -> missing(VillageFeud::betweenAgain));
        holds("Throws `IllegalArgumentException`", () -> same(ARGUMENT, VillageFeud::betweenAgain));
    }

    private static void bestMove() {
        part("Promise 24");
        holds("Returns the household that should change its side", () -> {
            VillageFeud better = Villages.of(9, "08=9 18=3");
            better.stand(8, 1);
            // 0 would leave 3, 1 would leave 9, and 8 would leave 0
            Due.is(8, better::bestMove);
            // each move makes the feud greater, and that of 3 the least so
            Due.is(3, () -> Villages.ring().bestMove());
            Due.is(0, () -> Villages.full().bestMove());
            Due.is(1, () -> Villages.of(3, "02=5").bestMove());
        });
        holds("Returns the household.", () -> {
            Due.is(0, () -> Villages.of(1, "").bestMove());
            Due.is(0, () -> Villages.of(9, "").bestMove());
            Due.is(8, () -> Villages.of(9, "01=1 23=1 45=1 67=1").bestMove());
        });
        holds("Throws `NoSuchElementException`", () -> {
            thrown(EMPTY, NONE, VillageFeud::bestMove);
            VillageFeud x = Villages.of(1, "");
            x.leave(0);
            Due.fails(NONE, x::bestMove);
        });
    }

    private static void ifMoved() {
        part("Promise 25");
        holds("Returns what the feud of the division would be", () -> {
            VillageFeud x = Villages.ring();
            Due.is(6, () -> x.ifMoved(3));
            Due.is(0, x::feud);
            x.stand(3, 1);
            Due.is(0, () -> x.ifMoved(3));
            Due.is(9, () -> x.ifMoved(0));
            Due.is(6, x::feud);
            Due.is("012|3", () -> Villages.sides(x));
        });
        holds("Returns the feud.", () -> {
            Due.is(0, () -> Villages.of(1, "").ifMoved(0));
            Due.is(8, () -> Villages.full().ifMoved(0));
            Due.is(8, () -> Villages.full().ifMoved(8));
            Due.is(99, () -> TWO.village().ifMoved(1));
        });
        holds("Throws `IndexOutOfBoundsException`", () -> {
            for (int nowhere : NOWHERE) {
                thrown(FULL, INDEX, x -> x.ifMoved(nowhere));
            }
            thrown(EMPTY, INDEX, x -> x.ifMoved(0));
            thrown(LONELY, INDEX, x -> x.ifMoved(1));
            thrown(RING, INDEX, x -> x.ifMoved(4));
        });
    }

    private static void ifBond() {
        part("Promise 26");
        holds("Returns the least feud if the bond of two households had a weight.", () -> {
            VillageFeud x = Villages.ring();
            Due.is(6, () -> x.ifBond(0, 2, 99));
            Due.is(6, () -> x.ifBond(3, 0, 3));
            Due.is(2, () -> x.ifBond(0, 1, 0));
            Due.is(5, x::least);
        });
        holds("`weight`: the weight, 0 to 99, 0 for no bond", () -> {
            Due.is(0, () -> TWO.village().ifBond(0, 1, 0));
            Due.is(1, () -> TWO.village().ifBond(0, 1, 1));
            Due.is(99, () -> Villages.of(2, "").ifBond(1, 0, 99));
            Due.is(0, () -> Villages.of(2, "").ifBond(1, 0, 0));
        });
        holds("Returns the least feud.", () -> {
            Due.is(0, () -> Villages.of(9, "").ifBond(0, 8, 99));
            Due.is(8, () -> Villages.full().ifBond(8, 0, 99));
            Due.is(7, () -> Villages.full().ifBond(8, 0, 0));
        });
        holds("Throws `IndexOutOfBoundsException`", () -> {
            missing((x, one, other) -> x.ifBond(one, other, 5));
            missing((x, one, other) -> x.ifBond(one, other, 100));
            missing((x, one, other) -> x.ifBond(one, other, -1));
        });
        holds("Throws `IllegalArgumentException`", () -> {
            same(ARGUMENT, (x, one, other) -> x.ifBond(one, other, 5));
            same(ARGUMENT, (x, one, other) -> x.ifBond(one, other, 100));
            for (int weight : new int[] {Integer.MIN_VALUE, -1, 100, 101, Integer.MAX_VALUE}) {
                thrown(TWO, ARGUMENT, x -> x.ifBond(0, 1, weight));
                thrown(RING, ARGUMENT, x -> x.ifBond(0, 2, weight));
            }
        });
    }

    private static void isCritical() {
        part("Promise 27");
        holds("Returns whether the least feud would be less", () -> {
            Due.is(true, () -> Villages.crowds().isCritical(3, 2));
            Due.is(false, () -> Villages.crowds().isCritical(4, 5));
            Due.is("01=7 02=8 12=9 23=2 34=6 35=5 45=4", () -> {
                VillageFeud x = Villages.crowds();
                x.isCritical(2, 3);
                return Villages.bonds(x);
            });
        });
        holds("Returns whether it would.", () -> {
            Due.is(true, () -> Villages.of(2, "01=1").isCritical(0, 1));
            Due.is(true, () -> Villages.full().isCritical(8, 0));
            // it is 0 already, and cannot be less
            Due.is(false, () -> Villages.of(9, "01=99").isCritical(0, 1));
        });
        holds("Throws `IndexOutOfBoundsException`", () -> missing(VillageFeud::isCritical));
        holds("Throws `IllegalStateException`", () -> {
            same(STATE, VillageFeud::isCritical);
            thrown(RING, STATE, x -> x.isCritical(0, 2));
            thrown(RING, STATE, x -> x.isCritical(3, 1));
            thrown(() -> Villages.of(2, ""), STATE, x -> x.isCritical(0, 1));
            VillageFeud x = Villages.of(2, "01=5");
            x.loosen(0, 1);
            Due.fails(STATE, () -> x.isCritical(0, 1));
        });
    }

    private static void isTold() {
        part("Promise 33");
        holds("Returns whether feuds, the least one, and those between", () -> {
            for (Made made : new Made[] {RING, FULL, TWO, Villages::crowds}) {
                VillageFeud x = made.village();
                Due.is(true, x::isTold);
                Due.is(x.feud(), x::feudAgain);
                Due.is(x.least(), x::leastAgain);
                for (int other = 1; other < x.account(0); other++) {
                    int to = other;
                    Due.is(x.between(0, other), () -> x.betweenAgain(0, to));
                    Due.is(true, () -> x.least() <= x.between(0, to));
                }
            }
        });
        holds("Returns whether this is so.", () -> {
            Due.is(true, () -> new VillageFeud().isTold());
            Due.is(true, () -> Villages.of(1, "").isTold());
            Due.is(true, () -> Villages.of(2, "").isTold());
            Due.is(true, () -> Villages.of(9, "").isTold());
            VillageFeud odd = Villages.of(3, "01=1 12=1 02=1");
            odd.stand(1, 1);
            Due.is(true, odd::isTold);
            odd.marry(0, 2);
            Due.is(true, odd::isTold);
        });
    }
}
