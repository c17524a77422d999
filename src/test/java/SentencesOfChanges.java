/** The sentences of the promises 1 to 8: the new object, and the changes but run. */
final class SentencesOfChanges extends Sentences {
    private static final Made EMPTY = VillageFeud::new;
    private static final Made LONELY = () -> Villages.of(1, "");
    private static final Made RING = Villages::ring;
    private static final Made FULL = Villages::full;

    private SentencesOfChanges() {
    }

    static void tell() {
        newObject();
        household();
        leave();
        bond();
        bondRefused();
        loosen();
        loosenRefused();
        marry();
        marryRefused();
        stand();
        standRefused();
        partTheVillage();
    }

    private static void newObject() {
        part("Promise 1");
        holds("Creates a village without households.", () -> {
            VillageFeud x = new VillageFeud();
            Due.is("0 0 0 0 0 0 0 0 0 0 0 | |  | -1", () -> Villages.state(x));
            Due.is(" none none", () -> Villages.reasons(x));
            Due.fails(STATE, x::undo);
            Due.fails(STATE, x::restore);
            Due.is(0, x::household);
            Due.is(0, () -> new VillageFeud().account(0));
        });
    }

    private static void household() {
        part("Promise 2");
        holds("Lets a household come.", () -> {
            VillageFeud x = new VillageFeud();
            for (int before = 0; before < 9; before++) {
                Due.is(before, () -> x.account(0));
                x.household();
            }
            Due.is(9, () -> x.account(0));
            Due.is(9, () -> x.account(5));
        });
        holds("Returns its number.", () -> {
            VillageFeud x = new VillageFeud();
            for (int number = 0; number < 9; number++) {
                Due.is(number, x::household);
            }
            x.leave(0);
            Due.is(8, x::household);
            x.leave(3);
            x.marry(1, 0);
            Due.is(7, x::household);
        });
        holds("Throws `UnsupportedOperationException`", () -> {
            refused(() -> Villages.of(9, ""), 1, 9, VillageFeud::household);
            refused(FULL, 1, 9, VillageFeud::household);
            VillageFeud x = Villages.of(9, "");
            Due.fails(REFUSED, x::household);
            Due.refuses(x, 1, 9, x::household);
            x.undo();
            Due.is(8, x::household);
        });
    }

    private static void leave() {
        part("Promise 3");
        holds("Lets a household go, with its bonds.", () -> {
            VillageFeud first = Villages.ring();
            first.leave(0);
            Due.is("01=3 12=4", () -> Villages.bonds(first));
            VillageFeud middle = Villages.ring();
            middle.leave(2);
            Due.is("01=5 02=2", () -> Villages.bonds(middle));
            VillageFeud last = Villages.ring();
            last.leave(3);
            Due.is("01=5 12=3", () -> Villages.bonds(last));
            last.household();
            Due.is("01=5 12=3", () -> Villages.bonds(last));
            VillageFeud lonely = Villages.of(1, "");
            lonely.leave(0);
            Due.is("0 0 0 0 0 1 1 0 0 0 2", () -> Villages.accounts(lonely));
            VillageFeud full = Villages.full();
            full.leave(8);
            Due.is(28, () -> full.account(1));
        });
        holds("Returns how many households there are then.", () -> {
            VillageFeud x = Villages.of(9, "08=5 17=6");
            for (int then = 8; then >= 0; then--) {
                int gone = then / 2;
                Due.is(then, () -> x.leave(gone));
            }
        });
        holds("Throws `UnsupportedOperationException`", () -> {
            for (int nowhere : NOWHERE) {
                refused(FULL, 2, nowhere, x -> x.leave(nowhere));
                refused(EMPTY, 2, nowhere, x -> x.leave(nowhere));
            }
            refused(EMPTY, 2, 0, x -> x.leave(0));
            refused(LONELY, 2, 1, x -> x.leave(1));
            refused(RING, 2, 4, x -> x.leave(4));
        });
    }

    private static void bond() {
        part("Promise 4");
        holds("Tells the weight of the bond of two households.", () -> {
            VillageFeud x = Villages.of(9, "");
            x.bond(8, 0, 1);
            Due.is("08=1", () -> Villages.bonds(x));
            x.bond(0, 8, 99);
            Due.is("08=99", () -> Villages.bonds(x));
            x.bond(7, 8, 50);
            Due.is("08=99 78=50", () -> Villages.bonds(x));
            VillageFeud married = Villages.of(3, "02=99 12=99");
            married.marry(0, 1);
            married.bond(1, 0, 99);
            Due.is("01=99", () -> Villages.bonds(married));
        });
        holds("Returns the weight before, 0 if there was no bond.", () -> {
            VillageFeud x = Villages.of(4, "12=7");
            Due.is(0, () -> x.bond(0, 3, 99));
            Due.is(99, () -> x.bond(3, 0, 1));
            Due.is(1, () -> x.bond(0, 3, 2));
            Due.is(7, () -> x.bond(2, 1, 3));
            x.loosen(0, 3);
            Due.is(0, () -> x.bond(0, 3, 2));
            VillageFeud married = Villages.of(3, "02=99 12=98");
            married.marry(0, 1);
            Due.is(197, () -> married.bond(0, 1, 1));
        });
    }

    private static void bondRefused() {
        holds("Throws `UnsupportedOperationException`", () -> {
            for (int nowhere : NOWHERE) {
                refused(FULL, 2, nowhere, x -> x.bond(nowhere, 0, 5));
                refused(FULL, 2, nowhere, x -> x.bond(8, nowhere, 5));
                refused(FULL, 2, nowhere, x -> x.bond(nowhere, nowhere, 0));
            }
            refused(EMPTY, 2, 0, x -> x.bond(0, 1, 5));
            refused(LONELY, 2, 1, x -> x.bond(0, 1, 5));
            refused(RING, 2, 5, x -> x.bond(5, 4, 0));
            refused(RING, 2, 4, x -> x.bond(3, 4, 0));
            refused(LONELY, 3, 0, x -> x.bond(0, 0, 0));
            refused(RING, 3, 3, x -> x.bond(3, 3, 5));
            for (int weight : new int[] {Integer.MIN_VALUE, -1, 0, 100, 101, Integer.MAX_VALUE}) {
                refused(RING, 4, weight, x -> x.bond(0, 1, weight));
                refused(RING, 4, weight, x -> x.bond(0, 2, weight));
            }
            refused(RING, 5, 5, x -> x.bond(0, 1, 5));
            refused(RING, 5, 2, x -> x.bond(3, 0, 2));
            refused(() -> Villages.of(2, "01=1"), 5, 1, x -> x.bond(1, 0, 1));
            refused(() -> Villages.of(2, "01=99"), 5, 99, x -> x.bond(0, 1, 99));
        });
    }

    private static void loosen() {
        part("Promise 5");
        holds("Lets the bond of two households be gone.", () -> {
            VillageFeud x = Villages.ring();
            x.loosen(3, 0);
            Due.is("01=5 12=3 23=4", () -> Villages.bonds(x));
            x.loosen(1, 2);
            Due.is("01=5 23=4", () -> Villages.bonds(x));
            x.loosen(0, 1);
            x.loosen(2, 3);
            Due.is("", () -> Villages.bonds(x));
            Due.is(4, x::parts);
        });
        holds("Returns its weight.", () -> {
            VillageFeud x = Villages.of(9, "08=1 78=99");
            Due.is(1, () -> x.loosen(8, 0));
            Due.is(99, () -> x.loosen(7, 8));
            VillageFeud married = Villages.of(3, "02=99 12=99");
            married.marry(0, 1);
            Due.is(198, () -> married.loosen(1, 0));
        });
    }

    private static void loosenRefused() {
        holds("Throws `UnsupportedOperationException`", () -> {
            for (int nowhere : NOWHERE) {
                refused(FULL, 2, nowhere, x -> x.loosen(nowhere, 0));
                refused(FULL, 2, nowhere, x -> x.loosen(8, nowhere));
                refused(FULL, 2, nowhere, x -> x.loosen(nowhere, nowhere));
            }
            refused(EMPTY, 2, 1, x -> x.loosen(1, 0));
            refused(LONELY, 2, 1, x -> x.loosen(0, 1));
            refused(RING, 2, 5, x -> x.loosen(5, 4));
            refused(RING, 2, 4, x -> x.loosen(0, 4));
            refused(LONELY, 3, 0, x -> x.loosen(0, 0));
            refused(RING, 3, 2, x -> x.loosen(2, 2));
            refused(RING, 6, 4, x -> x.loosen(0, 2));
            refused(RING, 6, 4, x -> x.loosen(3, 1));
            refused(() -> Villages.of(2, ""), 6, 0, x -> x.loosen(0, 1));
        });
    }

    private static void marry() {
        part("Promise 6");
        holds("Lets a household marry another one.", () -> {
            VillageFeud x = Villages.ring();
            x.marry(0, 2);
            Due.is("01=8 02=6", () -> Villages.bonds(x));
            VillageFeud y = Villages.ring();
            y.marry(2, 0);
            Due.is("01=8 12=6", () -> Villages.bonds(y));
            VillageFeud z = Villages.ring();
            z.marry(3, 2);
            Due.is("01=5 02=2 12=3", () -> Villages.bonds(z));
            VillageFeud two = Villages.of(2, "01=99");
            two.marry(1, 0);
            Due.is("1 0 0 0 0 2 1 1 1 0 4", () -> Villages.accounts(two));
            VillageFeud full = Villages.full();
            full.marry(8, 0);
            Due.is("8 28 35 0 0 9 1 1 0 0 8", () -> Villages.accounts(full));
            Due.is(2, () -> full.weight(0, 7));
            Due.is(1, () -> full.weight(0, 1));
        });
        holds("Returns the number of the one then.", () -> {
            Due.is(0, () -> Villages.of(2, "").marry(0, 1));
            Due.is(0, () -> Villages.of(2, "").marry(1, 0));
            Due.is(7, () -> Villages.of(9, "").marry(8, 0));
            Due.is(7, () -> Villages.of(9, "").marry(8, 7));
            Due.is(0, () -> Villages.of(9, "").marry(0, 8));
            Due.is(7, () -> Villages.of(9, "").marry(7, 8));
            Due.is(3, () -> Villages.of(9, "").marry(4, 3));
            Due.is(3, () -> Villages.of(9, "").marry(3, 4));
        });
    }

    private static void marryRefused() {
        holds("Throws `UnsupportedOperationException`", () -> {
            for (int nowhere : NOWHERE) {
                refused(FULL, 2, nowhere, x -> x.marry(nowhere, 0));
                refused(FULL, 2, nowhere, x -> x.marry(8, nowhere));
                refused(FULL, 2, nowhere, x -> x.marry(nowhere, nowhere));
            }
            refused(EMPTY, 2, 0, x -> x.marry(0, 1));
            refused(LONELY, 2, 1, x -> x.marry(0, 1));
            refused(RING, 2, 5, x -> x.marry(5, 4));
            refused(RING, 2, 4, x -> x.marry(3, 4));
            refused(LONELY, 3, 0, x -> x.marry(0, 0));
            refused(RING, 3, 3, x -> x.marry(3, 3));
        });
    }

    private static void stand() {
        part("Promise 7");
        holds("Lets a household stand on a side.", () -> {
            VillageFeud x = Villages.of(9, "");
            x.stand(8, 1);
            x.stand(0, 1);
            Due.is("1234567|08", () -> Villages.sides(x));
            x.stand(8, 0);
            Due.is("12345678|0", () -> Villages.sides(x));
            VillageFeud lonely = Villages.of(1, "");
            lonely.stand(0, 1);
            Due.is("|0", () -> Villages.sides(lonely));
            lonely.stand(0, 0);
            Due.is("0|", () -> Villages.sides(lonely));
        });
        holds("Returns the feud of the division then.", () -> {
            VillageFeud x = Villages.ring();
            Due.is(7, () -> x.stand(0, 1));
            Due.is(14, () -> x.stand(2, 1));
            Due.is(6, () -> x.stand(1, 1));
            Due.is(0, () -> x.stand(3, 1));
            Due.is(6, () -> x.stand(3, 0));
            Due.is(0, () -> Villages.of(1, "").stand(0, 1));
        });
    }

    private static void standRefused() {
        holds("Throws `UnsupportedOperationException`", () -> {
            for (int nowhere : NOWHERE) {
                refused(FULL, 2, nowhere, x -> x.stand(nowhere, 1));
                refused(FULL, 2, nowhere, x -> x.stand(nowhere, 2));
                refused(FULL, 4, nowhere, x -> x.stand(0, nowhere));
            }
            refused(EMPTY, 2, 0, x -> x.stand(0, 0));
            refused(LONELY, 2, 1, x -> x.stand(1, -1));
            refused(LONELY, 4, 2, x -> x.stand(0, 2));
            refused(LONELY, 4, -1, x -> x.stand(0, -1));
            refused(LONELY, 5, 0, x -> x.stand(0, 0));
            refused(() -> {
                VillageFeud x = Villages.of(9, "");
                x.stand(8, 1);
                return x;
            }, 5, 1, x -> x.stand(8, 1));
        });
    }

    private static void partTheVillage() {
        part("Promise 8");
        holds("Parts the village by the least feud.", () -> {
            VillageFeud two = Villages.of(2, "01=99");
            two.stand(0, 1);
            two.part();
            Due.is("0|1", () -> Villages.sides(two));
            VillageFeud ring = Villages.ring();
            ring.part();
            Due.is("01|23", () -> Villages.sides(ring));
            // the cut of each household alone is 8, and 8 is the last one of the phase 0
            VillageFeud full = Villages.full();
            full.part();
            Due.is("01234567|8", () -> Villages.sides(full));
            VillageFeud loose = Villages.of(9, "");
            loose.part();
            Due.is("01234567|8", () -> Villages.sides(loose));
        });
        holds("Returns the feud of the division then.", () -> {
            Due.is(0, () -> Villages.of(2, "").part());
            Due.is(99, () -> Villages.of(2, "01=99").part());
            Due.is(5, () -> Villages.ring().part());
            Due.is(2, () -> Villages.crowds().part());
            Due.is(8, () -> Villages.full().part());
        });
        holds("Throws `UnsupportedOperationException`", () -> {
            refused(EMPTY, 7, 0, VillageFeud::part);
            refused(LONELY, 7, 1, VillageFeud::part);
            refused(() -> {
                VillageFeud x = Villages.of(2, "01=5");
                x.part();
                x.leave(0);
                return x;
            }, 7, 1, VillageFeud::part);
        });
    }
}
