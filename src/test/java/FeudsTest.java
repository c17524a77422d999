/** Promises 19, 21 to 27 and 33: the least feud by divisions, feuds between two, moves, trials. */
public final class FeudsTest {
    private static final Class<? extends RuntimeException> INDEX = IndexOutOfBoundsException.class;
    private static final Class<? extends RuntimeException> ARGUMENT = IllegalArgumentException.class;
    private static final Class<? extends RuntimeException> STATE = IllegalStateException.class;
    private static final Class<? extends RuntimeException> NONE = java.util.NoSuchElementException.class;

    public static void main(String[] args) {
        leastByDivisions();
        between();
        betweenFaults();
        moves();
        ifBond();
        isCritical();
        trialsChangeNothing();
        isTold();
        Due.end();
    }

    private static void leastByDivisions() {
        Due.is(5, () -> Villages.ring().leastAgain());
        Due.is(1, () -> Villages.ring().leastSides());
        Due.is(2, () -> Villages.crowds().leastAgain());
        Due.is(1, () -> Villages.crowds().leastSides());
        Due.is(0, () -> Villages.of(2, "").leastAgain());
        Due.is(1, () -> Villages.of(2, "").leastSides());
        Due.is(7, () -> Villages.of(2, "01=7").leastAgain());
        Due.is(3, () -> Villages.of(3, "").leastSides());
        Due.is(255, () -> Villages.of(9, "").leastSides());
        Due.is(3, () -> Villages.of(3, "01=2 12=2 02=2").leastSides());
        Due.is(6, () -> Villages.of(4, "01=1 12=1 23=1 03=1").leastSides());
        Due.is(8, () -> Villages.of(9, "01=1 12=1 23=1 34=1 45=1 56=1 67=1 78=1").leastSides());
        Due.is(3, () -> Villages.of(5, "01=4 23=5").leastSides());
        for (int households = 0; households < 2; households++) {
            VillageFeud x = Villages.of(households, "");
            Due.fails(NONE, x::leastAgain);
            Due.fails(NONE, x::leastSides);
        }
    }

    private static void between() {
        areBetween(Villages.ring(), "01=7 02=5 03=5 12=5 13=5 23=6");
        areBetween(Villages.crowds(), "01=15 02=15 03=2 04=2 05=2 12=16 13=2 14=2 15=2 "
                + "23=2 24=2 25=2 34=10 35=9 45=9");
        areBetween(Villages.of(3, "01=9"), "01=9 02=0 12=0");
        areBetween(Villages.of(4, "01=10 02=1 12=9 13=2 23=11"), "03=11 01=11 23=13");
        // the shortest path goes from 1 to 2, and the longer ones go back there, twice as much
        areBetween(Villages.of(8, "01=1 12=1 23=1 04=2 45=2 25=2 16=2 67=2 37=2"), "03=3");
        VillageFeud married = Villages.of(4, "02=99 12=98 23=97 13=96");
        married.marry(0, 1);
        areBetween(married, "01=293 02=193 12=193");
    }

    private static void areBetween(VillageFeud x, String feuds) {
        for (String feud : feuds.split(" ")) {
            int one = feud.charAt(0) - '0';
            int other = feud.charAt(1) - '0';
            String due = feud.substring(3);
            Due.is(due, () -> x.between(one, other));
            Due.is(due, () -> x.between(other, one));
            Due.is(due, () -> x.betweenAgain(one, other));
            Due.is(due, () -> x.betweenAgain(other, one));
        }
    }

    private static void betweenFaults() {
        VillageFeud x = Villages.ring();
        int[][] missing = {{4, 0}, {0, 4}, {-1, 0}, {0, -1}, {4, 4}, {9, 9}, {-1, -1}};
        for (int[] pair : missing) {
            Due.fails(INDEX, () -> x.between(pair[0], pair[1]));
            Due.fails(INDEX, () -> x.betweenAgain(pair[0], pair[1]));
            Due.fails(INDEX, () -> x.ifBond(pair[0], pair[1], 100));
            Due.fails(INDEX, () -> x.isCritical(pair[0], pair[1]));
        }
        for (int household = 0; household < 4; household++) {
            int same = household;
            Due.fails(ARGUMENT, () -> x.between(same, same));
            Due.fails(ARGUMENT, () -> x.betweenAgain(same, same));
            Due.fails(ARGUMENT, () -> x.ifBond(same, same, 5));
            Due.fails(STATE, () -> x.isCritical(same, same));
        }
        Due.fails(INDEX, () -> new VillageFeud().between(0, 0));
        Due.fails(INDEX, () -> new VillageFeud().betweenAgain(0, 0));
    }

    private static void moves() {
        VillageFeud x = Villages.ring();
        int[] due = {7, 8, 7, 6};
        for (int household = 0; household < 4; household++) {
            int moved = household;
            Due.is(due[household], () -> x.ifMoved(moved));
        }
        Due.is(3, x::bestMove);
        x.part();
        Due.is("01|23", () -> Villages.sides(x));
        int[] dueParted = {8, 7, 6, 7};
        for (int household = 0; household < 4; household++) {
            int moved = household;
            Due.is(dueParted[household], () -> x.ifMoved(moved));
        }
        Due.is(2, x::bestMove);
        Due.is(5, x::feud);
        Due.fails(INDEX, () -> x.ifMoved(4));
        Due.fails(INDEX, () -> x.ifMoved(-1));
        Due.is(0, () -> Villages.of(1, "").bestMove());
        Due.is(0, () -> Villages.of(1, "").ifMoved(0));
        Due.is(0, () -> Villages.of(3, "01=1 12=1 02=1").bestMove());
        Due.is(1, () -> Villages.of(3, "01=1 02=5").bestMove());
        Due.fails(NONE, () -> new VillageFeud().bestMove());
        Due.fails(INDEX, () -> new VillageFeud().ifMoved(0));
    }

    private static void ifBond() {
        VillageFeud x = Villages.ring();
        Due.is(5, () -> x.ifBond(0, 1, 5));
        Due.is(2, () -> x.ifBond(0, 1, 0));
        Due.is(3, () -> x.ifBond(1, 0, 1));
        Due.is(6, () -> x.ifBond(0, 2, 99));
        Due.is(6, () -> x.ifBond(0, 2, 99));
        Due.is(6, () -> x.ifBond(1, 2, 4));
        Due.fails(ARGUMENT, () -> x.ifBond(0, 1, -1));
        Due.fails(ARGUMENT, () -> x.ifBond(0, 1, 100));
        VillageFeud y = Villages.of(3, "01=7");
        Due.is(0, () -> y.ifBond(0, 1, 99));
        Due.is(7, () -> y.ifBond(1, 2, 99));
        Due.is(4, () -> y.ifBond(1, 2, 4));
    }

    private static void isCritical() {
        VillageFeud x = Villages.ring();
        Due.is(true, () -> x.isCritical(0, 1));
        Due.is(true, () -> x.isCritical(2, 1));
        Due.fails(STATE, () -> x.isCritical(0, 2));
        VillageFeud y = Villages.crowds();
        Due.is(true, () -> y.isCritical(2, 3));
        Due.is(false, () -> y.isCritical(0, 1));
        Due.is(false, () -> Villages.of(3, "01=7").isCritical(0, 1));
        Due.is(true, () -> Villages.of(2, "01=7").isCritical(1, 0));
        Due.is(true, () -> Villages.of(2, "01=1").isCritical(0, 1));
    }

    private static void trialsChangeNothing() {
        VillageFeud x = Villages.crowds();
        x.part();
        String accounts = Villages.accounts(x);
        x.ifBond(0, 5, 50);
        x.isCritical(2, 3);
        x.ifMoved(0);
        x.bestMove();
        x.isTold();
        Due.is(accounts, () -> Villages.accounts(x));
        Due.is("01=7 02=8 12=9 23=2 34=6 35=5 45=4", () -> Villages.bonds(x));
        Due.is("012|345", () -> Villages.sides(x));
        Due.is(2, x::least);
    }

    private static void isTold() {
        Due.is(true, () -> new VillageFeud().isTold());
        Due.is(true, () -> Villages.of(1, "").isTold());
        Due.is(true, () -> Villages.of(9, "").isTold());
        // the division has an empty side, so that its feud is below the least one
        Due.is(true, () -> Villages.ring().isTold());
        VillageFeud x = Villages.crowds();
        x.stand(1, 1);
        Due.is(true, x::isTold);
        x.marry(0, 5);
        Due.is(true, x::isTold);
    }
}
