/** The sentences of the promises 9 to 13: how much is tied, and the feud of the division. */
final class SentencesOfTies extends Sentences {
    private static final Made EMPTY = VillageFeud::new;
    private static final Made LONELY = () -> Villages.of(1, "");
    private static final Made RING = Villages::ring;
    private static final Made FULL = Villages::full;

    private SentencesOfTies() {
    }

    static void tell() {
        weight();
        householdOf();
        householdOfThrows();
        tied();
        tiedThrows();
        feud();
        feudAgain();
    }

    private static void weight() {
        part("Promise 9");
        holds("Returns how much two households are tied.", () -> {
            VillageFeud x = Villages.of(9, "08=1 78=99");
            Due.is(1, () -> x.weight(0, 8));
            Due.is(1, () -> x.weight(8, 0));
            Due.is(99, () -> x.weight(7, 8));
            Due.is(99, () -> x.weight(8, 7));
        });
        holds("Returns the weight, 0 for one and the same.", () -> {
            VillageFeud x = Villages.full();
            Due.is(0, () -> x.weight(0, 0));
            Due.is(0, () -> x.weight(8, 8));
            x.marry(7, 8);
            Due.is(0, () -> x.weight(7, 7));
            Due.is(2, () -> x.weight(0, 7));
            Due.is(0, () -> Villages.of(1, "").weight(0, 0));
        });
        holds("Throws `IndexOutOfBoundsException`", () -> {
            for (int nowhere : NOWHERE) {
                thrown(FULL, INDEX, x -> x.weight(nowhere, 0));
                thrown(FULL, INDEX, x -> x.weight(8, nowhere));
                thrown(FULL, INDEX, x -> x.weight(nowhere, nowhere));
            }
            thrown(EMPTY, INDEX, x -> x.weight(0, 0));
            thrown(LONELY, INDEX, x -> x.weight(0, 1));
            thrown(LONELY, INDEX, x -> x.weight(1, 0));
            thrown(RING, INDEX, x -> x.weight(4, 3));
            thrown(RING, INDEX, x -> x.weight(3, 4));
        });
    }

    private static VillageFeud star() {
        VillageFeud x = Villages.of(5, "01=5 02=9 03=9 13=2");
        x.stand(1, 1);
        x.stand(3, 1);
        return x;
    }

    private static void householdOf() {
        part("Promise 10");
        holds("Returns a number of a household.", () -> {
            int[] due = {1, 2, 7, 2, 5, 0};
            for (int what = 0; what <= 5; what++) {
                int of = what;
                Due.is(due[what], () -> star().householdOf(1, of));
            }
        });
        holds("`what`: 0 for its side", () -> {
            Due.is(0, () -> star().householdOf(0, 0));
            Due.is(1, () -> star().householdOf(3, 0));
            Due.is(0, () -> star().householdOf(4, 1));
            Due.is(3, () -> star().householdOf(0, 1));
            Due.is(8, () -> Villages.full().householdOf(8, 1));
            Due.is(0, () -> star().householdOf(4, 2));
            Due.is(23, () -> star().householdOf(0, 2));
            Due.is(9, () -> star().householdOf(0, 3));
            Due.is(2, () -> star().householdOf(3, 3));
            Due.is(14, () -> star().householdOf(0, 4));
            Due.is(9, () -> star().householdOf(3, 4));
            Due.is(8, () -> Villages.full().householdOf(0, 3));
            Due.is(0, () -> Villages.full().householdOf(0, 4));
            Due.is(2, () -> star().householdOf(0, 5));
            Due.is(1, () -> Villages.full().householdOf(0, 5));
            Due.is(0, () -> Villages.full().householdOf(8, 5));
            Due.is(8, () -> Villages.of(9, "08=2 07=1").householdOf(0, 5));
            Due.is(-1, () -> star().householdOf(4, 5));
            Due.is(-1, () -> Villages.of(1, "").householdOf(0, 5));
        });
        holds("Returns the number.", () -> {
            VillageFeud lonely = Villages.of(1, "");
            int[] due = {0, 0, 0, 0, 0, -1};
            for (int what = 0; what <= 5; what++) {
                int of = what;
                Due.is(due[what], () -> lonely.householdOf(0, of));
            }
        });
    }

    private static void householdOfThrows() {
        holds("Throws `IndexOutOfBoundsException`", () -> {
            for (int nowhere : NOWHERE) {
                thrown(FULL, INDEX, x -> x.householdOf(nowhere, 5));
                thrown(FULL, INDEX, x -> x.householdOf(nowhere, nowhere));
            }
            for (int what = -1; what <= 6; what++) {
                int of = what;
                thrown(EMPTY, INDEX, x -> x.householdOf(0, of));
                thrown(LONELY, INDEX, x -> x.householdOf(1, of));
                thrown(RING, INDEX, x -> x.householdOf(4, of));
            }
        });
        holds("Throws `IllegalArgumentException`", () -> {
            for (int nowhere : NOWHERE) {
                thrown(FULL, ARGUMENT, x -> x.householdOf(8, nowhere));
            }
            thrown(LONELY, ARGUMENT, x -> x.householdOf(0, 6));
            thrown(LONELY, ARGUMENT, x -> x.householdOf(0, -1));
        });
    }

    private static void tied() {
        part("Promise 11");
        holds("Returns how much two sets are tied.", () -> {
            Due.is(7, () -> Villages.of(9, "08=7").tied(1, 256));
            Due.is(7, () -> Villages.of(9, "08=7").tied(256, 1));
            Due.is(20, () -> Villages.full().tied(15, 496));
            Due.is(14, () -> Villages.ring().tied(5, 10));
            Due.is(99, () -> Villages.of(2, "01=99").tied(2, 1));
        });
        holds("Returns how much.", () -> {
            Due.is(0, () -> new VillageFeud().tied(0, 0));
            Due.is(0, () -> Villages.of(1, "").tied(1, 0));
            Due.is(0, () -> Villages.full().tied(511, 0));
            Due.is(0, () -> Villages.full().tied(0, 511));
            Due.is(8, () -> Villages.full().tied(510, 1));
            Due.is(0, () -> Villages.of(9, "").tied(255, 256));
        });
    }

    private static void tiedThrows() {
        holds("Throws `IllegalArgumentException`", () -> {
            int[] sets = {512, 513, 1024, 1 << 30, Integer.MAX_VALUE, -1, -512, Integer.MIN_VALUE};
            for (int set : sets) {
                thrown(FULL, ARGUMENT, x -> x.tied(set, 0));
                thrown(FULL, ARGUMENT, x -> x.tied(0, set));
                thrown(EMPTY, ARGUMENT, x -> x.tied(set, 0));
                thrown(EMPTY, ARGUMENT, x -> x.tied(0, set));
            }
            thrown(EMPTY, ARGUMENT, x -> x.tied(1, 0));
            thrown(EMPTY, ARGUMENT, x -> x.tied(0, 1));
            thrown(LONELY, ARGUMENT, x -> x.tied(1, 1));
            thrown(LONELY, ARGUMENT, x -> x.tied(2, 0));
            thrown(LONELY, ARGUMENT, x -> x.tied(1, 2));
            thrown(RING, ARGUMENT, x -> x.tied(16, 1));
            thrown(RING, ARGUMENT, x -> x.tied(8, 15));
            thrown(FULL, ARGUMENT, x -> x.tied(511, 256));
            thrown(FULL, ARGUMENT, x -> x.tied(511, 511));
        });
    }

    private static VillageFeud parted() {
        VillageFeud x = Villages.ring();
        x.stand(0, 1);
        x.stand(2, 1);
        return x;
    }

    private static void feud() {
        part("Promise 12");
        holds("Returns the feud of the division: bond by bond.", () -> {
            Due.is(14, () -> parted().feud());
            VillageFeud full = Villages.full();
            for (int household = 0; household < 9; household++) {
                full.stand(household, 1);
                int those = household + 1;
                Due.is(those * (9 - those), full::feud);
            }
        });
        holds("Returns the feud.", () -> {
            Due.is(0, () -> new VillageFeud().feud());
            Due.is(0, () -> Villages.of(1, "").feud());
            Due.is(0, () -> Villages.full().feud());
            VillageFeud odd = Villages.of(2, "01=99");
            odd.stand(1, 1);
            Due.is(99, odd::feud);
        });
    }

    private static void feudAgain() {
        part("Promise 13");
        holds("Returns the same by a second way", () -> {
            Due.is(14, () -> parted().feudAgain());
            VillageFeud full = Villages.full();
            for (int household = 8; household >= 0; household--) {
                full.stand(household, 1);
                int those = 9 - household;
                Due.is(those * (9 - those), full::feudAgain);
            }
        });
        holds("Returns the feud.", () -> {
            Due.is(0, () -> new VillageFeud().feudAgain());
            Due.is(0, () -> Villages.of(1, "").feudAgain());
            Due.is(0, () -> Villages.full().feudAgain());
            VillageFeud odd = Villages.of(2, "01=99");
            odd.stand(0, 1);
            Due.is(99, odd::feudAgain);
        });
    }
}
