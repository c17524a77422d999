/** Promises 42 to 44: accounts, the mean weight of a bond, and the share of the feud. */
public final class AccountsTest {
    public static void main(String[] args) {
        account();
        meanWeight();
        feudShare();
        Due.end();
    }

    private static void account() {
        VillageFeud x = Villages.of(7, "01=5 12=6 23=7 34=8");
        Due.is("7 4 26 0 0 7 0 0 2 0 8", () -> Villages.accounts(x));
        x.stand(1, 1);
        x.stand(5, 1);
        Due.is("7 4 26 2 2 7 0 0 2 0 8", () -> Villages.accounts(x));
        x.leave(6);
        x.marry(2, 3);
        Villages.type(x, "ho");
        Due.is("5 3 19 2 2 7 2 1 1 2 8", () -> Villages.accounts(x));
        x.undo();
        x.undo();
        Due.is("7 4 26 2 2 7 0 0 2 2 6", () -> Villages.accounts(x));
        VillageFeud light = Villages.of(2, "01=1");
        light.part();
        Due.is("2 1 1 1 1 2 0 0 0 0 4", () -> Villages.accounts(light));
        Due.fails(IllegalArgumentException.class, () -> x.account(11));
        Due.fails(IllegalArgumentException.class, () -> x.account(-1));
        Due.fails(IllegalArgumentException.class, () -> x.account(Integer.MIN_VALUE));
    }

    private static void meanWeight() {
        Due.is(5.0, () -> Villages.of(2, "01=5").meanWeight());
        Due.is(5.5, () -> Villages.of(3, "01=5 12=6").meanWeight());
        Due.is(10.0 / 3, () -> Villages.of(3, "01=5 12=4 02=1").meanWeight());
        Due.fails(ArithmeticException.class, () -> Villages.of(3, "").meanWeight());
        Due.fails(ArithmeticException.class, () -> new VillageFeud().meanWeight());
    }

    private static void feudShare() {
        VillageFeud x = Villages.of(3, "01=5 12=4 02=1");
        Due.is(0.0f, x::feudShare);
        x.stand(2, 1);
        Due.is(0.5f, x::feudShare);
        x.stand(0, 1);
        Due.is(0.9f, x::feudShare);
        VillageFeud y = Villages.of(3, "01=5 12=2");
        y.part();
        Due.is(2.0f / 7, y::feudShare);
        Due.fails(ArithmeticException.class, () -> Villages.of(3, "").feudShare());
        Due.fails(ArithmeticException.class, () -> new VillageFeud().feudShare());
    }
}
