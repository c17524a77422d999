/** Promises 1 to 8: the new object, and the changes but run. */
public final class ChangesTest {
    private static final Class<? extends RuntimeException> REFUSED = UnsupportedOperationException.class;

    public static void main(String[] args) {
        newObject();
        household();
        leave();
        leaveShifts();
        bond();
        loosen();
        marry();
        marryShifts();
        stand();
        part();
        refusedChangesNothing();
        Due.end();
    }

    private static void newObject() {
        VillageFeud x = new VillageFeud();
        Due.is("0 0 0 0 0 0 0 0 0 0 0", () -> Villages.accounts(x));
        Due.is("", () -> Villages.bonds(x));
        Due.is("|", () -> Villages.sides(x));
        Due.is(0, x::phases);
        Due.is(0, x::feud);
        Due.is(0, x::parts);
        Due.is(-1, x::faultPosition);
        Due.is(true, x::isTold);
    }

    private static void household() {
        VillageFeud x = new VillageFeud();
        for (int k = 0; k < 9; k++) {
            Due.is(k, x::household);
        }
        Due.refuses(x, 1, 9, x::household);
        Due.is("9 0 0 0 0 9 0 0 9 0 8", () -> Villages.accounts(x));
        Due.is("012345678|", () -> Villages.sides(x));
        Due.is(8, () -> x.leave(8));
        Due.is(8, x::household);
        Due.refuses(x, 1, 9, x::household);
        Due.is(10, () -> x.account(5));
    }

    private static void leave() {
        VillageFeud x = new VillageFeud();
        Due.refuses(x, 2, 0, () -> x.leave(0));
        VillageFeud y = Villages.of(3, "01=5 12=6");
        Due.refuses(y, 2, 3, () -> y.leave(3));
        Due.refuses(y, 2, -1, () -> y.leave(-1));
        Due.refuses(y, 2, Integer.MIN_VALUE, () -> y.leave(Integer.MIN_VALUE));
        Due.refuses(y, 2, Integer.MAX_VALUE, () -> y.leave(Integer.MAX_VALUE));
        Due.is(2, () -> y.leave(1));
        Due.is("", () -> Villages.bonds(y));
        Due.is(1, () -> y.account(6));
        Due.is(1, () -> y.leave(0));
        Due.is(0, () -> y.leave(0));
        Due.refuses(y, 2, 0, () -> y.leave(0));
        Due.is("0 0 0 0 0 3 3 0 0 0 8", () -> Villages.accounts(y));
    }

    private static void leaveShifts() {
        VillageFeud x = Villages.of(5, "01=1 02=2 13=3 14=4 23=5 34=6");
        x.stand(1, 1);
        x.stand(3, 1);
        x.stand(4, 1);
        Due.is("02|134", () -> Villages.sides(x));
        Due.is(4, () -> x.leave(1));
        Due.is("01=2 12=5 23=6", () -> Villages.bonds(x));
        Due.is("01|23", () -> Villages.sides(x));
        Due.is(3, () -> x.leave(3));
        Due.is("01=2 12=5", () -> Villages.bonds(x));
        Due.is("01|2", () -> Villages.sides(x));
        Due.is(3, x::household);
        Due.is("01=2 12=5", () -> Villages.bonds(x));
        Due.is("013|2", () -> Villages.sides(x));
        Due.is(3, () -> x.leave(0));
        Due.is("01=5", () -> Villages.bonds(x));
        Due.is("02|1", () -> Villages.sides(x));
        VillageFeud y = Villages.of(3, "02=5 12=6");
        Due.is(2, () -> y.leave(2));
        Due.is(2, y::household);
        Due.is("", () -> Villages.bonds(y));
    }

    private static void bond() {
        VillageFeud x = Villages.of(3, "");
        Due.is(0, () -> x.bond(0, 1, 1));
        Due.is(1, () -> x.bond(1, 0, 99));
        Due.is(99, () -> x.bond(0, 1, 5));
        Due.is(0, () -> x.bond(2, 1, 7));
        Due.is("01=5 12=7", () -> Villages.bonds(x));
        Due.refuses(x, 5, 5, () -> x.bond(0, 1, 5));
        Due.refuses(x, 5, 5, () -> x.bond(1, 0, 5));
        Due.refuses(x, 4, 0, () -> x.bond(0, 1, 0));
        Due.refuses(x, 4, 0, () -> x.bond(0, 2, 0));
        Due.refuses(x, 4, 100, () -> x.bond(0, 1, 100));
        Due.refuses(x, 4, -1, () -> x.bond(0, 1, -1));
        Due.refuses(x, 4, Integer.MIN_VALUE, () -> x.bond(0, 1, Integer.MIN_VALUE));
        Due.refuses(x, 3, 2, () -> x.bond(2, 2, 5));
        Due.refuses(x, 3, 2, () -> x.bond(2, 2, 0));
        Due.refuses(x, 2, 3, () -> x.bond(3, 4, 0));
        Due.refuses(x, 2, 4, () -> x.bond(0, 4, 0));
        Due.refuses(x, 2, 3, () -> x.bond(3, 3, 5));
        Due.refuses(x, 2, -2, () -> x.bond(-2, 0, 5));
        Due.refuses(x, 2, -2, () -> x.bond(0, -2, 5));
        Due.is("01=5 12=7", () -> Villages.bonds(x));
        Due.is(7, () -> x.account(10));
    }

    private static void loosen() {
        VillageFeud x = Villages.of(4, "01=5 12=7 23=9");
        Due.is(7, () -> x.loosen(2, 1));
        Due.is("01=5 23=9", () -> Villages.bonds(x));
        Due.refuses(x, 6, 2, () -> x.loosen(1, 2));
        Due.refuses(x, 6, 2, () -> x.loosen(0, 3));
        Due.refuses(x, 3, 1, () -> x.loosen(1, 1));
        Due.refuses(x, 2, 4, () -> x.loosen(4, 5));
        Due.refuses(x, 2, 5, () -> x.loosen(0, 5));
        Due.refuses(x, 2, -1, () -> x.loosen(-1, -1));
        Due.is(5, () -> x.loosen(0, 1));
        Due.is(9, () -> x.loosen(2, 3));
        Due.refuses(x, 6, 0, () -> x.loosen(2, 3));
        Due.is("", () -> Villages.bonds(x));
    }

    private static void marry() {
        VillageFeud x = Villages.of(4, "01=90 02=80 12=70 13=60 23=50");
        x.stand(1, 1);
        Due.refuses(x, 2, 4, () -> x.marry(4, 5));
        Due.refuses(x, 2, 5, () -> x.marry(1, 5));
        Due.refuses(x, 2, -1, () -> x.marry(-1, 0));
        Due.refuses(x, 3, 1, () -> x.marry(1, 1));
        Due.is(1, () -> x.marry(1, 2));
        Due.is("01=170 12=110", () -> Villages.bonds(x));
        Due.is("02|1", () -> Villages.sides(x));
        Due.is("3 2 280 1 2 4 1 1 0 0 8", () -> Villages.accounts(x));
        Due.is(170, () -> x.bond(0, 1, 99));
        Due.refuses(x, 4, 170, () -> x.bond(0, 1, 170));
        Due.is(110, () -> x.loosen(1, 2));
        Due.is(0, () -> x.marry(0, 1));
        Due.is("", () -> Villages.bonds(x));
        Due.is(0, () -> x.marry(0, 1));
        Due.is("1 0 0 0 0 4 3 3 1 0 8", () -> Villages.accounts(x));
        Due.refuses(x, 2, 1, () -> x.marry(0, 1));
        Due.refuses(x, 3, 0, () -> x.marry(0, 0));
    }

    private static void marryShifts() {
        VillageFeud x = Villages.of(5, "03=1 04=2 14=3 24=4 34=5");
        x.stand(4, 1);
        x.stand(1, 1);
        Due.is(3, () -> x.marry(4, 0));
        Due.is("03=3 13=4 23=6", () -> Villages.bonds(x));
        Due.is("12|03", () -> Villages.sides(x));
        Due.is(2, () -> x.marry(2, 3));
        Due.is("02=3 12=4", () -> Villages.bonds(x));
        Due.is("12|0", () -> Villages.sides(x));
    }

    private static void stand() {
        VillageFeud x = Villages.ring();
        Due.is(8, () -> x.stand(1, 1));
        Due.is(9, () -> x.stand(2, 1));
        Due.is(6, () -> x.stand(0, 1));
        Due.is("3|012", () -> Villages.sides(x));
        Due.is(0, () -> x.stand(3, 1));
        Due.is("|0123", () -> Villages.sides(x));
        Due.refuses(x, 5, 1, () -> x.stand(3, 1));
        Due.is(6, () -> x.stand(3, 0));
        Due.refuses(x, 5, 0, () -> x.stand(3, 0));
        Due.refuses(x, 4, 2, () -> x.stand(3, 2));
        Due.refuses(x, 4, -1, () -> x.stand(3, -1));
        Due.refuses(x, 2, 4, () -> x.stand(4, 2));
        Due.refuses(x, 2, -1, () -> x.stand(-1, 0));
        Due.is("3|012", () -> Villages.sides(x));
    }

    private static void part() {
        VillageFeud x = new VillageFeud();
        Due.refuses(x, 7, 0, x::part);
        x.household();
        Due.refuses(x, 7, 1, x::part);
        x.household();
        Due.is(0, x::part);
        Due.is("0|1", () -> Villages.sides(x));
        Due.is(0, x::part);
        Due.is(4, () -> x.account(10));
        VillageFeud y = Villages.ring();
        y.stand(0, 1);
        Due.is(5, y::part);
        Due.is("01|23", () -> Villages.sides(y));
        VillageFeud z = Villages.crowds();
        Due.is(2, z::part);
        Due.is("012|345", () -> Villages.sides(z));
        VillageFeud first = Villages.of(3, "01=4 12=4");
        Due.is(4, first::part);
        Due.is("01|2", () -> Villages.sides(first));
    }

    private static void refusedChangesNothing() {
        VillageFeud x = Villages.crowds();
        x.stand(4, 1);
        String accounts = Villages.accounts(x);
        Due.fails(REFUSED, () -> x.leave(6));
        Due.fails(REFUSED, () -> x.bond(0, 3, 100));
        Due.fails(REFUSED, () -> x.loosen(0, 3));
        Due.fails(REFUSED, () -> x.marry(0, 6));
        Due.fails(REFUSED, () -> x.stand(4, 1));
        Due.is(accounts, () -> Villages.accounts(x));
        Due.is("01=7 02=8 12=9 23=2 34=6 35=5 45=4", () -> Villages.bonds(x));
        Due.is("01235|4", () -> Villages.sides(x));
        VillageFeud y = Villages.of(9, "");
        y.leave(0);
        y.household();
        Due.fails(REFUSED, y::household);
        Due.is("9 0 0 0 0 10 1 0 9 0 8", () -> Villages.accounts(y));
    }
}
