/** Promises 45 to 47: undo, and saving. */
public final class UndoTest {
    private static final Class<? extends RuntimeException> STATE = IllegalStateException.class;

    public static void main(String[] args) {
        undoOfEach();
        undoEight();
        undoneAndAnew();
        alsoIfNothingIsDifferent();
        queriesAreNoChanges();
        save();
        saveKeepsChanges();
        savedIsNotUndone();
        Due.end();
    }

    private static void undoOfEach() {
        VillageFeud x = Villages.crowds();
        x.stand(1, 1);
        String due = state(x);
        goesBack(x, due, x::household);
        goesBack(x, due, () -> x.leave(1));
        goesBack(x, due, () -> x.bond(0, 1, 99));
        goesBack(x, due, () -> x.bond(0, 5, 99));
        goesBack(x, due, () -> x.loosen(0, 1));
        goesBack(x, due, () -> x.marry(5, 1));
        goesBack(x, due, () -> x.stand(0, 1));
        goesBack(x, due, x::part);
        goesBack(x, due, () -> Villages.run(x, "house;marry 6 1;go 0;part"));
        Due.fails(STATE, () -> new VillageFeud().undo());
    }

    private static void goesBack(VillageFeud x, String due, Due.Call change) {
        int left = x.account(10);
        change.answer();
        Due.is(Math.min(8, left + 1), () -> x.account(10));
        Due.is(Math.min(8, left + 1) - 1, x::undo);
        Due.is(due, () -> state(x));
    }

    /** All that goes back: bonds, sides, and the accounts but the input and the changes. */
    private static String state(VillageFeud x) {
        StringBuilder state = new StringBuilder(Villages.bonds(x)).append(' ').append(Villages.sides(x));
        for (int what = 0; what <= 8; what++) {
            state.append(' ').append(x.account(what));
        }
        return state.toString();
    }

    private static void undoEight() {
        VillageFeud x = Villages.of(2, "");
        for (int weight = 1; weight <= 20; weight++) {
            x.bond(0, 1, weight);
        }
        Due.is(8, () -> x.account(10));
        for (int left = 7; left >= 0; left--) {
            int due = left;
            Due.is(due, x::undo);
            Due.is(due, () -> x.account(10));
            Due.is(12 + due, () -> x.weight(0, 1));
        }
        Due.fails(STATE, x::undo);
        Due.is(12, () -> x.weight(0, 1));
    }

    private static void undoneAndAnew() {
        VillageFeud x = Villages.of(2, "01=1");
        x.bond(0, 1, 2);
        x.bond(0, 1, 3);
        x.undo();
        x.bond(0, 1, 4);
        Due.is(5, () -> x.account(10));
        Due.is(4, x::undo);
        Due.is(2, () -> x.weight(0, 1));
        Due.is(3, x::undo);
        Due.is(1, () -> x.weight(0, 1));
        x.undo();
        x.undo();
        Due.is(0, x::undo);
        Due.is("0 0 0 0 0 0 0 0 0 0 0", () -> Villages.accounts(x));
        Due.fails(STATE, x::undo);
    }

    private static void alsoIfNothingIsDifferent() {
        VillageFeud x = Villages.of(2, "");
        x.part();
        x.part();
        Villages.run(x, "part");
        Due.is(5, () -> x.account(10));
        Due.is(4, x::undo);
        Due.is("0|1", () -> Villages.sides(x));
        x.undo();
        Due.is("0|1", () -> Villages.sides(x));
        x.undo();
        Due.is("01|", () -> Villages.sides(x));
    }

    private static void queriesAreNoChanges() {
        VillageFeud x = Villages.of(3, "01=4 12=5");
        Due.is(5, () -> x.account(10));
        x.ifBond(0, 1, 9);
        x.isCritical(0, 1);
        x.ifMoved(1);
        x.save();
        x.tell();
        x.append('h');
        x.ranked(3, 0);
        x.betweenAgain(0, 2);
        Due.fails(UnsupportedOperationException.class, () -> x.leave(5));
        Due.fails(IllegalArgumentException.class, x::run);
        Due.fails(UnsupportedOperationException.class, () -> Villages.run(x, "house;go 9"));
        Due.is(5, () -> x.account(10));
        x.append('h');
        x.tell();
        Due.is(4, x::undo);
        Due.is(1, () -> x.account(9));
        Due.is("01=4 12=5", () -> Villages.line(x, 9));
        Due.is(8, () -> x.reason(0, false));
        Due.is(2, () -> x.reason(1, false));
        Due.is(-1, x::faultPosition);
    }

    private static void save() {
        VillageFeud x = new VillageFeud();
        Due.fails(STATE, x::restore);
        Due.is(0, x::save);
        x.household();
        Due.is(0, x::restore);
        Due.is("0 0 0 0 0 0 0 0 0 0 0", () -> Villages.accounts(x));
        VillageFeud y = Villages.crowds();
        y.part();
        y.marry(0, 1);
        Due.is(5, y::save);
        String due = state(y);
        y.marry(0, 4);
        y.household();
        y.household();
        Due.fails(IllegalArgumentException.class, () -> Villages.run(y, "hous"));
        Due.is(5, y::restore);
        Due.is(due, () -> state(y));
        Due.is(4, y::faultPosition);
        Due.is(0, () -> y.account(10));
        Due.fails(STATE, y::undo);
        y.leave(0);
        Due.is(1, () -> y.account(10));
        Due.is(5, y::restore);
        Due.is(due, () -> state(y));
        Due.fails(STATE, y::undo);
        y.leave(0);
        Due.is(0, y::undo);
        Due.is(due, () -> state(y));
        y.leave(0);
        Due.is(4, y::save);
        y.household();
        Due.is(4, y::restore);
    }

    private static void saveKeepsChanges() {
        VillageFeud x = Villages.of(3, "01=4 12=5");
        x.save();
        Due.is(5, () -> x.account(10));
        Due.is(4, x::undo);
        Due.is("01=4", () -> Villages.bonds(x));
        Due.is(3, x::restore);
        Due.is("01=4 12=5", () -> Villages.bonds(x));
        Due.fails(STATE, x::undo);
    }

    private static void savedIsNotUndone() {
        VillageFeud x = Villages.of(2, "");
        x.bond(0, 1, 9);
        x.save();
        x.undo();
        x.undo();
        x.undo();
        Due.fails(STATE, x::undo);
        Due.is(2, x::restore);
        Due.is("01=9", () -> Villages.bonds(x));
    }
}
