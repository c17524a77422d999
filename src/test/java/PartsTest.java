/** Promises 28 to 32: parts that are not tied, bonds in their order, and households in orders. */
public final class PartsTest {
    private static final Class<? extends RuntimeException> INDEX = IndexOutOfBoundsException.class;
    private static final Class<? extends RuntimeException> ARGUMENT = IllegalArgumentException.class;
    private static final Class<? extends RuntimeException> NONE = java.util.NoSuchElementException.class;

    public static void main(String[] args) {
        parts();
        longChain();
        bondAt();
        heaviest();
        ranked();
        rankedByFeud();
        rankedFaults();
        Due.end();
    }

    private static void parts() {
        VillageFeud x = Villages.of(6, "05=1 53=2 24=3");
        Due.is(3, x::parts);
        int[] due = {41, 2, 20, 41, 20, 41};
        for (int household = 0; household < 6; household++) {
            int from = household;
            Due.is(due[household], () -> x.partOf(from));
        }
        Due.fails(INDEX, () -> x.partOf(6));
        Due.fails(INDEX, () -> x.partOf(-1));
        Due.fails(INDEX, () -> new VillageFeud().partOf(0));
        Due.is(0, () -> new VillageFeud().parts());
        Due.is(9, () -> Villages.of(9, "").parts());
        Due.is(1, () -> Villages.crowds().parts());
    }

    /** A chain against the order of the numbers, so that one round is not enough. */
    private static void longChain() {
        VillageFeud x = Villages.of(9, "08=1 87=1 76=1 65=1 54=1 43=1 32=1 21=1");
        Due.is(1, x::parts);
        Due.is(511, () -> x.partOf(0));
        Due.is(511, () -> x.partOf(1));
        x.loosen(4, 5);
        Due.is(2, x::parts);
        Due.is(481, () -> x.partOf(0));
        Due.is(30, () -> x.partOf(1));
    }

    private static void bondAt() {
        VillageFeud x = Villages.of(9, "87=1 10=2 31=3 12=4 08=5");
        int[] due = {1, 8, 12, 13, 78};
        for (int index = 0; index < due.length; index++) {
            int at = index;
            Due.is(due[index], () -> x.bondAt(at));
        }
        Due.fails(NONE, () -> x.bondAt(5));
        Due.fails(NONE, () -> x.bondAt(-1));
        Due.fails(NONE, () -> x.bondAt(Integer.MAX_VALUE));
        Due.fails(NONE, () -> x.bondAt(Integer.MIN_VALUE));
        Due.fails(NONE, () -> new VillageFeud().bondAt(0));
        Due.fails(NONE, () -> Villages.of(9, "").bondAt(0));
    }

    private static void heaviest() {
        Due.is(12, () -> Villages.of(4, "01=5 12=9 13=9 23=9").heaviest());
        Due.is(23, () -> Villages.of(4, "01=5 12=8 13=8 32=9").heaviest());
        Due.is(1, () -> Villages.of(2, "10=1").heaviest());
        Due.fails(NONE, () -> Villages.of(2, "").heaviest());
        Due.fails(NONE, () -> new VillageFeud().heaviest());
    }

    /** Tied with all others: 15 20 20 9 0; bonds: 3 2 2 1 0; with the other side: 11 14 20 9 0. */
    private static void ranked() {
        VillageFeud x = Villages.of(5, "01=6 02=8 12=12 03=9");
        x.stand(2, 1);
        x.stand(3, 1);
        isRanked(x, 0, 0, 2, 1, 3, 4);
        isRanked(x, 1, 0, 1, 2, 3, 4);
        isRanked(x, 2, 2, 0, 1, 3, 4);
        VillageFeud y = Villages.of(4, "23=5 12=5");
        isRanked(y, 0, 2, 1, 3, 0);
        isRanked(y, 1, 2, 1, 3, 0);
        isRanked(y, 2, 0, 1, 2, 3);
    }

    private static void rankedByFeud() {
        // feuds with 0: 1 has 23, 2 has 20, 3 has 9, 4 has 0
        VillageFeud x = Villages.of(5, "01=6 02=8 12=12 03=9");
        isRanked(x, 3, 4, 3, 1, 2, 0);
        isRanked(Villages.of(4, ""), 3, 1, 2, 3, 0);
        isRanked(Villages.of(3, "01=5 12=4"), 3, 2, 1, 0);
        isRanked(Villages.of(2, "01=5"), 3, 1, 0);
        isRanked(Villages.of(1, ""), 3, 0);
        isRanked(Villages.crowds(), 3, 3, 4, 5, 1, 2, 0);
    }

    private static void isRanked(VillageFeud x, int kind, int... due) {
        for (int place = 0; place < due.length; place++) {
            int at = place;
            Due.is(due[place], () -> x.ranked(kind, at));
        }
        Due.fails(NONE, () -> x.ranked(kind, due.length));
        Due.fails(NONE, () -> x.ranked(kind, -1));
    }

    private static void rankedFaults() {
        VillageFeud x = Villages.ring();
        Due.fails(ARGUMENT, () -> x.ranked(4, 0));
        Due.fails(ARGUMENT, () -> x.ranked(-1, 0));
        Due.fails(ARGUMENT, () -> x.ranked(4, 9));
        Due.fails(NONE, () -> x.ranked(3, Integer.MAX_VALUE));
        Due.fails(NONE, () -> x.ranked(3, Integer.MIN_VALUE));
        for (int kind = 0; kind <= 3; kind++) {
            int of = kind;
            Due.fails(NONE, () -> new VillageFeud().ranked(of, 0));
        }
    }
}
