/** Promises 9 to 13: how much households and sets are tied, and the feud of the division. */
public final class TiesTest {
    private static final Class<? extends RuntimeException> INDEX = IndexOutOfBoundsException.class;
    private static final Class<? extends RuntimeException> ARGUMENT = IllegalArgumentException.class;

    public static void main(String[] args) {
        weight();
        householdOf();
        tied();
        feuds();
        Due.end();
    }

    private static void weight() {
        VillageFeud x = Villages.ring();
        Due.is(5, () -> x.weight(0, 1));
        Due.is(5, () -> x.weight(1, 0));
        Due.is(0, () -> x.weight(0, 2));
        Due.is(0, () -> x.weight(3, 3));
        Due.fails(INDEX, () -> x.weight(4, 0));
        Due.fails(INDEX, () -> x.weight(0, 4));
        Due.fails(INDEX, () -> x.weight(-1, 0));
        Due.fails(INDEX, () -> x.weight(0, -1));
        Due.fails(INDEX, () -> x.weight(Integer.MAX_VALUE, Integer.MIN_VALUE));
        VillageFeud y = Villages.of(9, "78=1 08=2");
        Due.is(1, () -> y.weight(8, 7));
        Due.fails(INDEX, () -> y.weight(9, 0));
        Due.fails(INDEX, () -> new VillageFeud().weight(0, 0));
    }

    private static void householdOf() {
        VillageFeud x = Villages.of(5, "01=5 02=9 03=9 13=2");
        x.stand(1, 1);
        x.stand(3, 1);
        int[][] due = {
            {0, 3, 23, 9, 14, 2}, {1, 2, 7, 2, 5, 0}, {0, 1, 9, 9, 0, 0}, {1, 2, 11, 2, 9, 0},
            {0, 0, 0, 0, 0, -1},
        };
        for (int household = 0; household < 5; household++) {
            for (int what = 0; what <= 5; what++) {
                int asked = household;
                int of = what;
                Due.is(due[household][what], () -> x.householdOf(asked, of));
            }
        }
        Due.is(1, () -> Villages.of(2, "01=1").householdOf(0, 5));
        Due.fails(ARGUMENT, () -> x.householdOf(0, 6));
        Due.fails(ARGUMENT, () -> x.householdOf(0, -1));
        Due.fails(INDEX, () -> x.householdOf(5, 0));
        Due.fails(INDEX, () -> x.householdOf(-1, 0));
        Due.fails(INDEX, () -> x.householdOf(5, 6));
        Due.fails(INDEX, () -> new VillageFeud().householdOf(0, 0));
    }

    private static void tied() {
        VillageFeud x = Villages.ring();
        Due.is(0, () -> x.tied(0, 0));
        Due.is(0, () -> x.tied(15, 0));
        Due.is(0, () -> x.tied(0, 15));
        Due.is(5, () -> x.tied(1, 2));
        Due.is(5, () -> x.tied(3, 12));
        Due.is(7, () -> x.tied(10, 4));
        Due.is(14, () -> x.tied(5, 10));
        Due.is(7, () -> x.tied(14, 1));
        Due.fails(ARGUMENT, () -> x.tied(1, 1));
        Due.fails(ARGUMENT, () -> x.tied(3, 6));
        Due.fails(ARGUMENT, () -> x.tied(16, 0));
        Due.fails(ARGUMENT, () -> x.tied(0, 16));
        Due.fails(ARGUMENT, () -> x.tied(17, 2));
        Due.fails(ARGUMENT, () -> x.tied(-1, 0));
        Due.fails(ARGUMENT, () -> x.tied(0, -1));
        Due.fails(ARGUMENT, () -> x.tied(Integer.MIN_VALUE, 0));
        Due.fails(ARGUMENT, () -> x.tied(0, Integer.MIN_VALUE));
        VillageFeud y = Villages.of(9, "08=7");
        Due.is(7, () -> y.tied(256, 255));
        Due.fails(ARGUMENT, () -> y.tied(512, 0));
        Due.is(0, () -> new VillageFeud().tied(0, 0));
        Due.fails(ARGUMENT, () -> new VillageFeud().tied(0, 1));
    }

    private static void feuds() {
        VillageFeud x = Villages.ring();
        int[] due = {0, 7, 8, 5, 7, 14, 9, 6};
        for (int side = 0; side < 16; side++) {
            for (int household = 0; household < 4; household++) {
                int wanted = side >> household & 1;
                if (x.householdOf(household, 0) != wanted) {
                    x.stand(household, wanted);
                }
            }
            int feud = side < 8 ? due[side] : due[15 - side];
            Due.is(feud, x::feud);
            Due.is(feud, x::feudAgain);
        }
    }
}
