/** The sentences of the terms from the refusals on: reasons, changes, details, and exceptions. */
final class SentencesOfDetails extends Sentences {
    private static final Made RING = Villages::ring;

    private SentencesOfDetails() {
    }

    static void tell() {
        refusals();
        changes();
        undone();
        details();
        moreDetails();
        exceptions();
    }

    private static VillageFeud parted() {
        VillageFeud x = Villages.ring();
        x.part();
        return x;
    }

    private static void refusals() {
        part("Terms");
        holds("Something is refused for the first that applies of the reasons", () -> {
            refused(() -> Villages.of(9, ""), 1, 9, VillageFeud::household);
            refused(RING, 2, 4, x -> x.leave(4));
            refused(RING, 2, -1, x -> x.bond(-1, 7, 0));
            refused(RING, 2, 7, x -> x.bond(0, 7, 0));
            refused(RING, 2, 7, x -> x.bond(7, 7, 0));
            refused(RING, 3, 1, x -> x.bond(1, 1, 0));
            refused(RING, 4, 0, x -> x.bond(0, 1, 0));
            refused(RING, 4, 2, x -> x.stand(0, 2));
            refused(RING, 5, 5, x -> x.bond(0, 1, 5));
            refused(RING, 5, 0, x -> x.stand(0, 0));
            refused(SentencesOfDetails::parted, 5, 1, x -> x.stand(3, 1));
            refused(RING, 2, 8, x -> x.loosen(8, 8));
            refused(RING, 3, 2, x -> x.loosen(2, 2));
            refused(RING, 6, 4, x -> x.loosen(0, 2));
            refused(() -> Villages.of(1, ""), 7, 1, VillageFeud::part);
            refused(VillageFeud::new, 7, 0, VillageFeud::part);
            VillageFeud x = Villages.ring();
            Due.fails(REFUSED, () -> Villages.run(x, "part;side 0 0;go 9"));
            Due.is(" 8:1 5:0", () -> Villages.reasons(x));
            VillageFeud first = Villages.ring();
            Due.fails(REFUSED, () -> Villages.run(first, "go 9;part"));
            Due.is(" 8:0 2:9", () -> Villages.reasons(first));
        });
    }

    /** How many changes can be undone after a call, that throws or not, in a village with three. */
    private static void leaves(int due, Asked call) {
        VillageFeud x = Villages.of(2, "01=5");
        try {
            call.answer(x);
        } catch (RuntimeException thrown) {
            Due.is(true, () -> Due.isOwn(thrown));
        }
        Due.is(due, () -> x.account(10));
    }

    private static void changes() {
        holds("The changes are the calls of household, leave, bond, loosen", () -> {
            leaves(4, VillageFeud::household);
            leaves(4, x -> x.leave(1));
            leaves(4, x -> x.bond(0, 1, 6));
            leaves(4, x -> x.loosen(0, 1));
            leaves(4, x -> x.marry(0, 1));
            leaves(4, x -> x.stand(0, 1));
            leaves(4, VillageFeud::part);
            leaves(4, x -> Villages.run(x, "house;go 2;part"));
            leaves(5, x -> x.part() + x.part());
            leaves(4, x -> Villages.run(x, "side 0 1;side 0 0"));
            leaves(3, x -> x.leave(2));
            leaves(3, x -> x.bond(0, 1, 5));
            leaves(3, x -> x.loosen(0, 0));
            leaves(3, x -> x.marry(0, 0));
            leaves(3, x -> x.stand(0, 0));
            leaves(3, x -> Villages.run(x, "part;house;go 9"));
            leaves(3, x -> Villages.run(x, "part;house;"));
            leaves(3, x -> x.append('p'));
            leaves(3, x -> x.tell() + x.tellPhase(0) + x.tellSides() + x.save());
            leaves(3, x -> x.ifBond(0, 1, 9) + x.ifMoved(0) + x.bestMove() + x.least());
            leaves(2, VillageFeud::undo);
        });
        holds("The latest 8 can be undone, the latest one first.", () -> {
            for (int changes = 0; changes <= 20; changes++) {
                VillageFeud x = new VillageFeud();
                for (int change = 0; change < changes; change++) {
                    int answer = change % 2 == 0 ? x.household() : x.leave(0);
                    Due.is(0, () -> answer);
                }
                for (int left = Math.min(8, changes); left > 0; left--) {
                    int due = left - 1;
                    Due.is(due + 1, () -> x.account(10));
                    Due.is(due, x::undo);
                }
                Due.fails(STATE, x::undo);
            }
            VillageFeud order = Villages.of(2, "");
            for (int weight = 1; weight <= 9; weight++) {
                order.bond(0, 1, weight);
            }
            for (int weight = 8; weight >= 1; weight--) {
                int due = weight;
                order.undo();
                Due.is(due, () -> order.weight(0, 1));
            }
            Due.fails(STATE, order::undo);
            Due.is(1, () -> order.weight(0, 1));
        });
    }

    private static void undone() {
        holds("The input, the fault position, the reason with what is behind it", () -> {
            VillageFeud x = Villages.of(3, "01=4 12=5");
            Due.fails(REFUSED, () -> Villages.run(x, "part;go 9"));
            Due.fails(ARGUMENT, () -> Villages.run(x, "part;"));
            x.bond(0, 1, 6);
            Villages.type(x, "house");
            x.tell();
            x.save();
            x.undo();
            Due.is(5, () -> x.account(9));
            Due.is(5, x::faultPosition);
            Due.is(" 8:1 2:9", () -> Villages.reasons(x));
            Due.is("01=6 12=5", () -> Villages.lineNow(x));
            Due.is("01=4 12=5", () -> Villages.bonds(x));
            Due.is(1, x::run);
            Due.is(3, x::restore);
            Due.is("01=6 12=5", () -> Villages.bonds(x));
        });
    }

    private static void details() {
        holds("A household that comes has no bonds, and stands on the side 0.", () -> {
            VillageFeud x = Villages.of(9, "08=5 78=6");
            x.stand(8, 1);
            x.leave(8);
            Due.is(8, x::household);
            Due.is(0, () -> x.householdOf(8, 1));
            Due.is(0, () -> x.householdOf(8, 0));
            Due.is("", () -> Villages.bonds(x));
            VillageFeud y = Villages.of(2, "01=5");
            y.stand(0, 1);
            y.stand(1, 1);
            y.marry(0, 1);
            y.household();
            Due.is("1|0", () -> Villages.sides(y));
            Due.is(0, () -> y.weight(0, 1));
        });
        holds("One that marries stays on its side.", () -> {
            VillageFeud x = Villages.of(3, "01=5 12=6");
            x.stand(2, 1);
            x.marry(2, 0);
            Due.is("0|1", () -> Villages.sides(x));
            x.marry(0, 1);
            Due.is("0|", () -> Villages.sides(x));
            VillageFeud y = Villages.of(2, "");
            y.stand(0, 1);
            y.marry(1, 0);
            Due.is("0|", () -> Villages.sides(y));
        });
        holds("To part the village lets the households of the group", () -> {
            for (VillageFeud x : new VillageFeud[] {Villages.ring(), Villages.crowds(),
                Villages.full(), Villages.of(2, ""), Villages.of(9, "07=9 08=9 78=9")}) {
                int last = x.phaseOf(x.met(), 4);
                for (int household = 0; household < x.account(0); household += 2) {
                    x.stand(household, 1);
                }
                x.part();
                for (int household = 0; household < x.account(0); household++) {
                    int each = household;
                    Due.is(last >> household & 1, () -> x.householdOf(each, 0));
                }
            }
        });
        holds("Without bonds between some households the least feud is 0.", () -> {
            Due.is(0, () -> Villages.of(2, "").least());
            Due.is(0, () -> Villages.of(9, "").leastAgain());
            Due.is(0, () -> Villages.of(9, "01=9 12=9 23=9 34=9 45=9 56=9 67=9").least());
            Due.is(0, () -> Villages.of(5, "01=99 12=99 34=99").leastAgain());
            Due.is(0, () -> Villages.of(5, "01=99 12=99 34=99").part());
        });
    }

    private static void moreDetails() {
        holds("What would be is told with all else as it is.", () -> {
            VillageFeud x = parted();
            String before = Villages.state(x);
            Due.is(2, () -> x.ifBond(0, 1, 0));
            Due.is(6, () -> x.ifBond(0, 2, 99));
            Due.is(true, () -> x.isCritical(0, 1));
            Due.is(8, () -> x.ifMoved(0));
            Due.is(7, () -> x.ifMoved(1));
            Due.is(2, x::bestMove);
            Due.is(before, () -> Villages.state(x));
            Due.is(5, x::least);
            Due.is(7, x::undo);
            Due.is(" none none", () -> Villages.reasons(x));
        });
        holds("How many bonds there are is told of the whole village.", () -> {
            refused(() -> Villages.of(9, "01=1 12=1 78=1"), 6, 3, x -> x.loosen(4, 5));
            refused(() -> Villages.of(9, ""), 6, 0, x -> x.loosen(4, 5));
            refused(() -> {
                VillageFeud x = Villages.full();
                x.loosen(0, 8);
                return x;
            }, 6, 35, x -> x.loosen(8, 0));
        });
        holds("A set of households can be empty.", () -> {
            Due.is(0, () -> new VillageFeud().tied(0, 0));
            Due.is(0, () -> Villages.full().tied(0, 0));
            Due.is(0, () -> Villages.full().tied(0, 511));
            Due.is(0, () -> Villages.full().tied(511, 0));
        });
        holds("With fewer than two households there is no least feud", () -> {
            Due.is(true, () -> new VillageFeud().isTold());
            Due.is(true, () -> Villages.of(1, "").isTold());
            Due.fails(NONE, () -> Villages.of(1, "").least());
            Due.fails(NONE, () -> Villages.of(1, "").leastAgain());
            Due.fails(NONE, () -> Villages.of(1, "").met());
            Due.fails(NONE, () -> Villages.of(1, "").leastSides());
            Due.is(0, () -> Villages.of(1, "").ranked(3, 0));
        });
    }

    private static void exceptions() {
        holds("A method that throws an exception leaves the state unchanged", () -> {
            refused(SentencesOfDetails::parted, 2, 4, x -> x.marry(0, 4));
            refused(SentencesOfDetails::parted, 4, 100, x -> x.bond(0, 1, 100));
            thrown(SentencesOfDetails::parted, INDEX, x -> x.tellPhase(3));
            thrown(SentencesOfDetails::parted, ARGUMENT, x -> x.ifBond(0, 1, 100));
            thrown(SentencesOfDetails::parted, STATE, VillageFeud::restore);
            thrown(SentencesOfDetails::parted, ARGUMENT, x -> x.append('\n'));
            // the changes of ahead and what was saved are still there after a refused run
            VillageFeud x = parted();
            x.save();
            Due.fails(REFUSED, () -> Villages.run(x, "house;marry 0 1;side 0 1;part;go 9"));
            Due.is(7, x::undo);
            Due.is("0123|", () -> Villages.sides(x));
            Due.is(4, x::restore);
            Due.is("01|23", () -> Villages.sides(x));
        });
        holds("If several conditions of a method are fulfilled", () -> {
            thrown(RING, INDEX, x -> x.householdOf(4, 6));
            thrown(RING, INDEX, x -> x.phaseOf(3, 5));
            thrown(RING, INDEX, x -> x.joined(3, 9));
            thrown(RING, INDEX, x -> x.tieAt(-1, -1));
            thrown(RING, INDEX, x -> x.between(4, 4));
            thrown(RING, INDEX, x -> x.betweenAgain(-1, -1));
            thrown(RING, INDEX, x -> x.ifBond(4, 4, 100));
            thrown(RING, INDEX, x -> x.isCritical(4, 4));
            thrown(RING, ARGUMENT, x -> x.ranked(4, 4));
            thrown(RING, ARGUMENT, x -> x.reason(2, true));
            thrown(() -> {
                VillageFeud x = new VillageFeud();
                Villages.type(x, "part;part;part;part;part;part;part;part;part;part;part;part;");
                return x;
            }, ARGUMENT, x -> x.append((char) 127));
            VillageFeud x = new VillageFeud();
            Due.fails(ARGUMENT, () -> Villages.run(x, "go 9;"));
        });
        holds("If something is refused, its reason is kept", () -> {
            VillageFeud x = Villages.ring();
            Due.fails(REFUSED, () -> Villages.run(x, "go 0;go 7"));
            Due.is(" 8:1 2:7", () -> Villages.reasons(x));
            Due.refuses(x, 6, 4, () -> x.loosen(0, 2));
            Due.refuses(x, 5, 0, () -> x.stand(1, 0));
            Due.fails(REFUSED, () -> Villages.run(x, "side 0 5"));
            Due.is(" 8:0 4:5", () -> Villages.reasons(x));
            Due.fails(ARGUMENT, x::run);
            Due.fails(INDEX, () -> x.weight(0, 4));
            x.part();
            Villages.run(x, "go 0");
            Due.is(" 8:0 4:5", () -> Villages.reasons(x));
        });
    }
}
