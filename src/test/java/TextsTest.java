/** Promises 34 to 37: the input, running it, its faults, and reasons with their causes. */
public final class TextsTest {
    private static final Class<? extends RuntimeException> ARGUMENT = IllegalArgumentException.class;
    private static final Class<? extends RuntimeException> STATE = IllegalStateException.class;
    private static final Class<? extends RuntimeException> NONE = java.util.NoSuchElementException.class;
    private static final Class<? extends RuntimeException> REFUSED = UnsupportedOperationException.class;

    public static void main(String[] args) {
        append();
        run();
        runIsOneChange();
        faults();
        numbers();
        faultIsKept();
        refusals();
        refusalDoesNothing();
        reasons();
        Due.end();
    }

    private static void append() {
        VillageFeud x = new VillageFeud();
        Due.fails(ARGUMENT, () -> x.append((char) 31));
        Due.fails(ARGUMENT, () -> x.append((char) 127));
        Due.fails(ARGUMENT, () -> x.append((char) 0));
        Due.fails(ARGUMENT, () -> x.append((char) 0xFFFF));
        Due.is(0, () -> x.account(9));
        Due.is(1, () -> x.append((char) 32));
        Due.is(2, () -> x.append((char) 126));
        for (int length = 3; length <= 60; length++) {
            Due.is(length, () -> x.append('h'));
        }
        Due.fails(STATE, () -> x.append('h'));
        Due.fails(STATE, () -> x.append(' '));
        Due.fails(ARGUMENT, () -> x.append((char) 31));
        Due.fails(ARGUMENT, () -> x.append((char) 127));
        Due.is(60, () -> x.account(9));
        Due.fails(ARGUMENT, x::run);
        Due.is(0, () -> x.account(9));
        Due.is(1, () -> x.append('h'));
    }

    private static void run() {
        VillageFeud x = new VillageFeud();
        Due.is(1, () -> Villages.run(x, "house"));
        Due.is(0, () -> x.account(9));
        Due.is(6, () -> Villages.run(x, "house;house;house;bond 0 1 9;bond 1 2 10;side 3 1"));
        Due.is("01=9 12=10", () -> Villages.bonds(x));
        Due.is("012|3", () -> Villages.sides(x));
        Due.is(2, () -> Villages.run(x, "loose 0 1;bond 3 2 99"));
        Due.is("12=10 23=99", () -> Villages.bonds(x));
        Due.is(2, () -> Villages.run(x, "marry 0 2;part"));
        Due.is("01=10 02=99", () -> Villages.bonds(x));
        Due.is("02|1", () -> Villages.sides(x));
        Due.is(1, () -> Villages.run(x, "go 0"));
        Due.is("2 0 0 1 0 4 2 1 2 0 5", () -> Villages.accounts(x));
        Due.is(12, () -> Villages.run(x, "part;part;part;part;part;part;part;part;part;part;part;part"));
        Due.is(-1, x::faultPosition);
        Due.fails(NONE, () -> x.reason(0, false));
    }

    private static void runIsOneChange() {
        VillageFeud x = new VillageFeud();
        Villages.run(x, "house;house;bond 0 1 5;house;bond 1 2 7");
        Villages.run(x, "part;side 2 0;go 2");
        Due.is(2, () -> x.account(10));
        Due.is(1, x::undo);
        Due.is("01=5 12=7", () -> Villages.bonds(x));
        Due.is("012|", () -> Villages.sides(x));
        Due.is(0, x::undo);
        Due.is("0 0 0 0 0 0 0 0 0 0 0", () -> Villages.accounts(x));
    }

    private static void isFault(int due, String signs) {
        VillageFeud x = Villages.of(9, "01=1");
        Due.fails(ARGUMENT, () -> Villages.run(x, signs));
        Due.is(due, x::faultPosition);
        Due.is(0, () -> x.account(9));
        Due.is("9 1 1 0 0 9 0 0 7 0 8", () -> Villages.accounts(x));
        Due.fails(NONE, () -> x.reason(0, false));
    }

    private static void faults() {
        isFault(0, "");
        isFault(0, " ");
        isFault(0, ";");
        isFault(0, "House");
        isFault(0, "x");
        isFault(0, "1");
        isFault(0, "#");
        isFault(0, "%");
        String[] orders = {
            "house", "go 3", "bond 2 3 45", "loose 0 1", "marry 1 2", "side 1 1", "part",
        };
        for (String order : orders) {
            for (int length = 1; length < order.length(); length++) {
                if (!order.substring(0, length).equals("bond 2 3 4")) {
                    isFault(length, order.substring(0, length));
                    isFault(length + 5, "go 4;" + order.substring(0, length) + "~");
                }
            }
            isFault(order.length() + 1, order + ";");
            isFault(order.length() + 1, order + ";;");
            isFault(order.length() + 1, order + "; " + order);
            isFault(order.length(), order + " ;" + order);
            isFault(order.length(), order + "s");
            isFault(order.length(), order + "7");
        }
    }

    private static void numbers() {
        isFault(3, "go #");
        isFault(3, "go -1");
        isFault(3, "go /");
        isFault(3, "go :");
        isFault(4, "go 12");
        isFault(6, "bond 12 3 4");
        isFault(9, "bond 1 2 ");
        isFault(9, "bond 1 2 %");
        isFault(9, "bond 1 2 ;part");
        isFault(10, "bond 1 2 3 ");
        isFault(11, "bond 1 2 345");
        isFault(11, "bond 1 2 34 ");
        isFault(8, "loose 0  1");
        isFault(3, "go  1");
    }

    private static void faultIsKept() {
        VillageFeud x = new VillageFeud();
        Due.fails(ARGUMENT, () -> Villages.run(x, "house;"));
        Due.is(6, x::faultPosition);
        x.household();
        x.undo();
        Due.is(6, x::faultPosition);
        Due.fails(REFUSED, () -> Villages.run(x, "go 1"));
        Due.is(-1, x::faultPosition);
        Due.fails(ARGUMENT, x::run);
        Due.is(0, x::faultPosition);
        Due.is(8, () -> x.reason(0, false));
        Villages.type(x, "house");
        Due.is(0, x::faultPosition);
        Due.is(1, x::run);
        Due.is(-1, x::faultPosition);
    }

    private static void isRefused(int index, int reason, int detail, String signs) {
        VillageFeud x = Villages.of(3, "01=7");
        x.marry(2, 0);
        x.household();
        String accounts = Villages.accounts(x);
        Due.fails(REFUSED, () -> Villages.run(x, signs));
        Due.is(8, () -> x.reason(0, false));
        Due.is(index, () -> x.reason(0, true));
        Due.is(reason, () -> x.reason(1, false));
        Due.is(detail, () -> x.reason(1, true));
        Due.is(accounts, () -> Villages.accounts(x));
        Due.is("01=7", () -> Villages.bonds(x));
        Due.is("012|", () -> Villages.sides(x));
        Due.is(-1, x::faultPosition);
    }

    private static void refusals() {
        isRefused(6, 1, 9, "house;house;house;house;house;house;house;go 0");
        isRefused(0, 2, 3, "go 3");
        isRefused(1, 2, 9, "go 0;go 9");
        isRefused(1, 2, 2, "go 0;bond 2 3 0");
        isRefused(0, 2, 3, "bond 0 3 0");
        isRefused(0, 3, 2, "bond 2 2 0");
        isRefused(0, 4, 0, "bond 0 1 0");
        isRefused(0, 4, 0, "bond 0 1 00");
        isRefused(0, 5, 7, "bond 1 0 07");
        isRefused(2, 5, 99, "house;bond 2 3 99;bond 3 2 99");
        isRefused(0, 2, 4, "loose 4 5");
        isRefused(0, 2, 5, "loose 0 5");
        isRefused(0, 3, 1, "loose 1 1");
        isRefused(0, 6, 1, "loose 0 2");
        isRefused(1, 6, 0, "loose 0 1;loose 0 1");
        isRefused(0, 2, 3, "marry 3 3");
        isRefused(0, 2, 8, "marry 0 8");
        isRefused(0, 3, 0, "marry 0 0");
        isRefused(2, 2, 1, "marry 0 1;marry 0 1;marry 0 1");
        isRefused(0, 2, 3, "side 3 9");
        isRefused(0, 4, 2, "side 0 2");
        isRefused(0, 5, 0, "side 0 0");
        isRefused(1, 5, 1, "side 0 1;side 0 1");
        isRefused(2, 7, 1, "go 0;go 0;part");
        isRefused(3, 7, 0, "go 0;go 0;go 0;part;part");
    }

    private static void refusalDoesNothing() {
        VillageFeud x = Villages.crowds();
        x.part();
        x.save();
        Due.fails(REFUSED, () -> Villages.run(x, "marry 0 1;house;go 2;side 0 1;bond 0 4 5;part;go 8"));
        Due.is("6 7 41 3 1 6 0 0 0 0 8", () -> Villages.accounts(x));
        Due.is("01=7 02=8 12=9 23=2 34=6 35=5 45=4", () -> Villages.bonds(x));
        Due.is("012|345", () -> Villages.sides(x));
        Due.is(7, x::undo);
        Due.is("012345|", () -> Villages.sides(x));
    }

    private static void reasons() {
        VillageFeud x = new VillageFeud();
        for (boolean isDetail : new boolean[] {true, false}) {
            Due.fails(NONE, () -> x.reason(0, isDetail));
            Due.fails(NONE, () -> x.reason(1, isDetail));
            Due.fails(ARGUMENT, () -> x.reason(2, isDetail));
            Due.fails(ARGUMENT, () -> x.reason(-1, isDetail));
        }
        Due.fails(REFUSED, () -> Villages.run(x, "house;part"));
        Due.is("8 1 7 1", () -> told(x));
        Due.fails(ARGUMENT, () -> Villages.run(x, "house;party"));
        x.household();
        x.save();
        Due.is("8 1 7 1", () -> told(x));
        x.undo();
        Due.is("8 1 7 1", () -> told(x));
        x.restore();
        Due.is("8 1 7 1", () -> told(x));
        Due.fails(ARGUMENT, () -> x.reason(2, false));
        Due.refuses(x, 2, 5, () -> x.leave(5));
        x.household();
        Due.is(2, () -> x.reason(0, false));
        Due.fails(REFUSED, () -> Villages.run(x, "bond 0 1 0"));
        Due.is("8 0 4 0", () -> told(x));
    }

    private static String told(VillageFeud x) {
        return x.reason(0, false) + " " + x.reason(0, true) + " "
                + x.reason(1, false) + " " + x.reason(1, true);
    }
}
