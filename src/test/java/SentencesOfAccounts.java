/** The sentences of the promises 42 to 47: accounts, shares, undo, and saving. */
final class SentencesOfAccounts extends Sentences {
    private static final Made EMPTY = VillageFeud::new;
    private static final Made LONELY = () -> Villages.of(1, "");
    private static final Made FULL = Villages::full;

    private SentencesOfAccounts() {
    }

    static void tell() {
        account();
        meanWeight();
        feudShare();
        undo();
        save();
        restore();
        restoreThrows();
    }

    private static VillageFeud busy() {
        VillageFeud x = Villages.of(7, "01=5 12=6 23=7 34=8");
        x.stand(1, 1);
        x.stand(5, 1);
        x.leave(6);
        x.marry(2, 3);
        x.undo();
        x.marry(2, 3);
        Villages.type(x, "ho");
        return x;
    }

    private static void account() {
        part("Promise 42");
        holds("Returns an account.", () -> {
            Due.is("0 0 0 0 0 0 0 0 0 0 0", () -> Villages.accounts(new VillageFeud()));
            Due.is("9 36 36 0 0 9 0 0 0 0 8", () -> Villages.accounts(Villages.full()));
        });
        holds("`what`: 0 the households; 1 the bonds;", () -> {
            int[] due = {5, 3, 19, 2, 2, 7, 2, 1, 1, 2, 8};
            for (int what = 0; what <= 10; what++) {
                int of = what;
                Due.is(due[what], () -> busy().account(of));
            }
        });
        holds("Returns the number.", () -> {
            VillageFeud parted = Villages.full();
            parted.part();
            Due.is("9 36 36 1 8 9 0 0 0 0 8", () -> Villages.accounts(parted));
            VillageFeud all = Villages.of(9, "");
            for (int household = 0; household < 9; household++) {
                all.stand(household, 1);
            }
            Due.is("9 0 0 9 0 9 0 0 9 0 8", () -> Villages.accounts(all));
            VillageFeud gone = Villages.of(2, "01=99");
            gone.marry(0, 1);
            gone.leave(0);
            Due.is("0 0 0 0 0 2 2 1 0 0 5", () -> Villages.accounts(gone));
        });
        holds("Throws `IllegalArgumentException`", () -> {
            for (int what : new int[] {Integer.MIN_VALUE, -1, 11, 12, Integer.MAX_VALUE}) {
                thrown(EMPTY, ARGUMENT, x -> x.account(what));
                thrown(FULL, ARGUMENT, x -> x.account(what));
            }
        });
    }

    private static void meanWeight() {
        part("Promise 43");
        holds("Returns the mean weight of a bond", () -> {
            Due.is(16.0 / 3, () -> Villages.of(4, "01=5 12=6 23=5").meanWeight());
            Due.is(1.0, () -> Villages.full().meanWeight());
            Due.is(37.0 / 36, () -> {
                VillageFeud x = Villages.full();
                x.bond(0, 8, 2);
                return x.meanWeight();
            });
        });
        holds("Returns the mean.", () -> {
            Due.is(1.0, () -> Villages.of(2, "01=1").meanWeight());
            Due.is(99.0, () -> Villages.of(9, "08=99").meanWeight());
            VillageFeud married = Villages.of(3, "02=99 12=99");
            married.marry(0, 1);
            Due.is(198.0, married::meanWeight);
        });
        holds("Throws `ArithmeticException`", () -> {
            thrown(EMPTY, DIVISION, VillageFeud::meanWeight);
            thrown(LONELY, DIVISION, VillageFeud::meanWeight);
            thrown(() -> Villages.of(9, ""), DIVISION, VillageFeud::meanWeight);
            VillageFeud x = Villages.of(2, "01=1");
            x.loosen(0, 1);
            Due.fails(DIVISION, x::meanWeight);
        });
    }

    private static void feudShare() {
        part("Promise 44");
        holds("Returns the share of the weights of all bonds", () -> {
            VillageFeud x = Villages.of(3, "01=1 02=1 12=1");
            x.stand(1, 1);
            Due.is(2.0f / 3, x::feudShare);
            VillageFeud full = Villages.full();
            full.part();
            Due.is(8.0f / 36, full::feudShare);
        });
        holds("Returns the share.", () -> {
            Due.is(0.0f, () -> Villages.full().feudShare());
            VillageFeud x = Villages.of(2, "01=99");
            x.stand(1, 1);
            Due.is(1.0f, x::feudShare);
            x.stand(0, 1);
            Due.is(0.0f, x::feudShare);
        });
        holds("Throws `ArithmeticException`", () -> {
            thrown(EMPTY, DIVISION, VillageFeud::feudShare);
            thrown(LONELY, DIVISION, VillageFeud::feudShare);
            thrown(() -> Villages.of(9, ""), DIVISION, VillageFeud::feudShare);
            VillageFeud x = Villages.of(2, "01=1");
            x.part();
            x.loosen(0, 1);
            Due.fails(DIVISION, x::feudShare);
        });
    }

    private static void undo() {
        part("Promise 45");
        holds("Undoes the latest change that was not undone.", () -> {
            VillageFeud x = Villages.of(2, "");
            x.bond(0, 1, 1);
            x.bond(0, 1, 2);
            x.undo();
            Due.is(1, () -> x.weight(0, 1));
            x.undo();
            Due.is(0, () -> x.weight(0, 1));
            x.bond(0, 1, 3);
            x.undo();
            Due.is(0, () -> x.weight(0, 1));
            x.undo();
            Due.is(1, () -> x.account(0));
        });
        holds("Returns the number of changes that can still be undone.", () -> {
            VillageFeud x = Villages.of(9, "");
            for (int left = 7; left >= 0; left--) {
                int due = left;
                Due.is(due, x::undo);
            }
            Due.is(1, () -> x.account(0));
            Due.is(0, () -> {
                x.household();
                return x.undo();
            });
        });
        holds("Throws `IllegalStateException`", () -> {
            thrown(EMPTY, STATE, VillageFeud::undo);
            thrown(() -> {
                VillageFeud x = Villages.full();
                for (int left = 0; left < 8; left++) {
                    x.undo();
                }
                return x;
            }, STATE, VillageFeud::undo);
            thrown(() -> {
                VillageFeud x = Villages.of(2, "");
                x.save();
                x.restore();
                return x;
            }, STATE, VillageFeud::undo);
        });
    }

    private static void save() {
        part("Promise 46");
        holds("Saves all that goes back when a change is undone", () -> {
            VillageFeud x = busy();
            x.save();
            x.household();
            x.stand(0, 1);
            x.bond(0, 1, 77);
            x.marry(2, 0);
            x.restore();
            Due.is("5 3 19 2 2 7 2 1 1 2 0", () -> Villages.accounts(x));
            Due.is("01=5 12=6 23=8", () -> Villages.bonds(x));
            Due.is("023|14", () -> Villages.sides(x));
            x.leave(0);
            x.save();
            x.leave(0);
            x.restore();
            Due.is(4, () -> x.account(0));
        });
        holds("Returns the households.", () -> {
            Due.is(0, () -> new VillageFeud().save());
            Due.is(1, () -> Villages.of(1, "").save());
            Due.is(9, () -> Villages.full().save());
        });
    }

    private static void restore() {
        part("Promise 47");
        holds("Restores what was saved, which stays saved.", () -> {
            VillageFeud x = Villages.of(3, "01=4 12=5");
            x.save();
            for (int time = 0; time < 3; time++) {
                x.marry(1, 0);
                x.household();
                x.restore();
                Due.is("01=4 12=5", () -> Villages.bonds(x));
                Due.is("3 2 9 0 0 3 0 0 0 0 0", () -> Villages.accounts(x));
            }
            VillageFeud empty = new VillageFeud();
            empty.save();
            empty.household();
            Due.is(0, empty::restore);
            Due.is("0 0 0 0 0 0 0 0 0 0 0", () -> Villages.accounts(empty));
        });
        holds("No changes can be undone then.", () -> {
            VillageFeud x = Villages.full();
            x.save();
            Due.is(8, () -> x.account(10));
            x.restore();
            Due.is(0, () -> x.account(10));
            Due.fails(STATE, x::undo);
            x.leave(8);
            Due.is(1, () -> x.account(10));
            Due.is(0, x::undo);
            Due.is(9, () -> x.account(0));
            Due.fails(STATE, x::undo);
        });
        holds("Returns the households.", () -> {
            VillageFeud x = Villages.of(9, "");
            x.save();
            x.leave(0);
            Due.is(9, x::restore);
            x.leave(0);
            x.leave(0);
            Due.is(9, x::restore);
        });
    }

    private static void restoreThrows() {
        holds("Throws `IllegalStateException`", () -> {
            thrown(EMPTY, STATE, VillageFeud::restore);
            thrown(FULL, STATE, VillageFeud::restore);
            VillageFeud x = Villages.of(2, "01=5");
            Due.fails(STATE, x::restore);
            Due.is(3, () -> x.account(10));
            Due.is(2, x::undo);
        });
    }
}
