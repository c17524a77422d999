/** The sentences of the promises 28 to 32: parts, bonds in their order, households in orders. */
final class SentencesOfParts extends Sentences {
    private static final Made EMPTY = VillageFeud::new;
    private static final Made LONELY = () -> Villages.of(1, "");
    private static final Made RING = Villages::ring;
    private static final Made FULL = Villages::full;
    private static final String CHAIN = "08=1 87=1 76=1 65=1 54=1 43=1 32=1 21=1";

    private SentencesOfParts() {
    }

    static void tell() {
        parts();
        partOf();
        bondAt();
        heaviest();
        ranked();
        rankedByKind();
        rankedThrows();
    }

    private static void parts() {
        part("Promise 28");
        holds("Returns how many parts of households there are", () -> {
            Due.is(3, () -> Villages.of(6, "05=1 53=2 24=3").parts());
            Due.is(1, () -> Villages.of(9, CHAIN).parts());
            VillageFeud x = Villages.of(9, CHAIN);
            x.loosen(4, 5);
            Due.is(2, x::parts);
            x.leave(8);
            Due.is(3, x::parts);
        });
        holds("Returns how many.", () -> {
            Due.is(0, () -> new VillageFeud().parts());
            Due.is(1, () -> Villages.of(1, "").parts());
            Due.is(2, () -> Villages.of(2, "").parts());
            Due.is(1, () -> Villages.of(2, "01=1").parts());
            Due.is(9, () -> Villages.of(9, "").parts());
            Due.is(8, () -> Villages.of(9, "78=1").parts());
            Due.is(1, () -> Villages.full().parts());
        });
    }

    private static void partOf() {
        part("Promise 29");
        holds("Returns all households to which one comes", () -> {
            int[] due = {41, 2, 20, 41, 20, 41};
            for (int household = 0; household < 6; household++) {
                int from = household;
                Due.is(due[household], () -> Villages.of(6, "05=1 53=2 24=3").partOf(from));
            }
            Due.is(511, () -> Villages.of(9, CHAIN).partOf(0));
            Due.is(511, () -> Villages.of(9, CHAIN).partOf(1));
        });
        holds("Returns their set.", () -> {
            Due.is(1, () -> Villages.of(1, "").partOf(0));
            Due.is(256, () -> Villages.of(9, "").partOf(8));
            Due.is(384, () -> Villages.of(9, "78=1").partOf(7));
            Due.is(511, () -> Villages.full().partOf(8));
        });
        holds("Throws `IndexOutOfBoundsException`", () -> {
            for (int nowhere : NOWHERE) {
                thrown(FULL, INDEX, x -> x.partOf(nowhere));
            }
            thrown(EMPTY, INDEX, x -> x.partOf(0));
            thrown(LONELY, INDEX, x -> x.partOf(1));
            thrown(RING, INDEX, x -> x.partOf(4));
        });
    }

    private static void bondAt() {
        part("Promise 30");
        holds("Returns a bond in the order of the lower household", () -> {
            VillageFeud x = Villages.full();
            int index = 0;
            for (int one = 0; one < 9; one++) {
                for (int other = one + 1; other < 9; other++) {
                    int at = index;
                    Due.is(10 * one + other, () -> x.bondAt(at));
                    index++;
                }
            }
            Due.fails(NONE, () -> x.bondAt(36));
        });
        holds("`index`: its index in this order, from 0", () -> {
            Due.is(1, () -> Villages.ring().bondAt(0));
            Due.is(23, () -> Villages.ring().bondAt(3));
        });
        holds("Returns 10 times the lower household", () -> {
            Due.is(1, () -> Villages.of(2, "10=5").bondAt(0));
            Due.is(8, () -> Villages.of(9, "80=5").bondAt(0));
            Due.is(78, () -> Villages.of(9, "87=5").bondAt(0));
        });
        holds("Throws `NoSuchElementException`", () -> {
            for (int index : new int[] {Integer.MIN_VALUE, -2, -1, 36, 37, Integer.MAX_VALUE}) {
                thrown(FULL, NONE, x -> x.bondAt(index));
                thrown(EMPTY, NONE, x -> x.bondAt(index));
            }
            thrown(EMPTY, NONE, x -> x.bondAt(0));
            thrown(LONELY, NONE, x -> x.bondAt(0));
            thrown(() -> Villages.of(9, ""), NONE, x -> x.bondAt(0));
            thrown(RING, NONE, x -> x.bondAt(4));
        });
    }

    private static void heaviest() {
        part("Promise 31");
        holds("Returns the heaviest bond", () -> {
            Due.is(12, () -> Villages.of(4, "01=5 12=9 13=9 23=9").heaviest());
            Due.is(23, () -> Villages.of(4, "01=98 12=98 13=98 23=99").heaviest());
            Due.is(1, () -> Villages.full().heaviest());
            VillageFeud married = Villages.of(4, "03=99 12=60 02=61");
            married.marry(0, 1);
            Due.is(1, married::heaviest);
        });
        holds("Returns 10 times the lower household", () -> {
            Due.is(1, () -> Villages.of(2, "10=1").heaviest());
            Due.is(8, () -> Villages.of(9, "80=1").heaviest());
            Due.is(78, () -> Villages.of(9, "87=1").heaviest());
        });
        holds("Throws `NoSuchElementException`", () -> {
            thrown(EMPTY, NONE, VillageFeud::heaviest);
            thrown(LONELY, NONE, VillageFeud::heaviest);
            thrown(() -> Villages.of(9, ""), NONE, VillageFeud::heaviest);
            VillageFeud x = Villages.of(2, "01=1");
            x.loosen(0, 1);
            Due.fails(NONE, x::heaviest);
        });
    }

    private static VillageFeud order() {
        VillageFeud x = Villages.of(5, "01=6 02=8 12=12 03=9");
        x.stand(2, 1);
        x.stand(3, 1);
        return x;
    }

    private static void isRanked(VillageFeud x, int kind, int... due) {
        for (int place = 0; place < due.length; place++) {
            int at = place;
            Due.is(due[place], () -> x.ranked(kind, at));
        }
    }

    private static void ranked() {
        part("Promise 32");
        holds("Returns a household in an order, of several the lowest first.", () -> {
            for (int kind = 0; kind <= 2; kind++) {
                isRanked(Villages.of(9, ""), kind, 0, 1, 2, 3, 4, 5, 6, 7, 8);
                isRanked(Villages.full(), kind, 0, 1, 2, 3, 4, 5, 6, 7, 8);
            }
            isRanked(Villages.of(9, ""), 3, 1, 2, 3, 4, 5, 6, 7, 8, 0);
            isRanked(Villages.full(), 3, 1, 2, 3, 4, 5, 6, 7, 8, 0);
        });
    }

    private static void rankedByKind() {
        holds("`kind`: 0 by how much it is tied with all others", () -> {
            isRanked(order(), 0, 0, 2, 1, 3, 4);
            isRanked(order(), 1, 0, 1, 2, 3, 4);
            isRanked(order(), 2, 2, 0, 1, 3, 4);
            isRanked(order(), 3, 4, 3, 1, 2, 0);
            for (int kind = 0; kind <= 3; kind++) {
                isRanked(Villages.of(1, ""), kind, 0);
            }
            // 1 is as far from 0 as can be, and 0 is the last one all the same
            isRanked(Villages.of(2, "01=99"), 3, 1, 0);
        });
        holds("`place`: its place in the order, from 0", () -> {
            Due.is(0, () -> Villages.of(9, "08=1").ranked(0, 0));
            Due.is(7, () -> Villages.of(9, "08=1").ranked(0, 8));
        });
        holds("Returns the household.", () -> {
            Due.is(8, () -> Villages.of(9, "08=1").ranked(0, 1));
            Due.is(8, () -> Villages.of(9, "78=1 08=1").ranked(1, 0));
            Due.is(8, () -> Villages.of(9, "08=1").ranked(3, 7));
        });
    }

    private static void rankedThrows() {
        holds("Throws `IllegalArgumentException`", () -> {
            for (int kind : new int[] {Integer.MIN_VALUE, -1, 4, 5, Integer.MAX_VALUE}) {
                thrown(EMPTY, ARGUMENT, x -> x.ranked(kind, 0));
                thrown(LONELY, ARGUMENT, x -> x.ranked(kind, 0));
                thrown(FULL, ARGUMENT, x -> x.ranked(kind, 8));
                thrown(FULL, ARGUMENT, x -> x.ranked(kind, 9));
                thrown(FULL, ARGUMENT, x -> x.ranked(kind, -1));
            }
        });
        holds("Throws `NoSuchElementException`", () -> {
            for (int kind = 0; kind <= 3; kind++) {
                int of = kind;
                for (int nowhere : NOWHERE) {
                    thrown(FULL, NONE, x -> x.ranked(of, nowhere));
                }
                thrown(EMPTY, NONE, x -> x.ranked(of, 0));
                thrown(LONELY, NONE, x -> x.ranked(of, 1));
                thrown(RING, NONE, x -> x.ranked(of, 4));
            }
        });
    }
}
