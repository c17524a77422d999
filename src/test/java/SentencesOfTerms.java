/** The sentences of the introduction: what the village is, and the terms down to the texts. */
final class SentencesOfTerms extends Sentences {
    private SentencesOfTerms() {
    }

    static void tell() {
        whatItIs();
        households();
        bonds();
        marriages();
        feuds();
        phases();
        phasesInOrder();
        leastFeud();
        texts();
        ordersOfTexts();
        faults();
    }

    private static void whatItIs() {
        part("What it is");
        holds("A village whose households are tied by bonds", () -> {
            VillageFeud x = Villages.ring();
            Due.is("01=5 03=2 12=3 23=4", () -> Villages.bonds(x));
            Due.is(x.least(), x::leastAgain);
            Due.is(x.least(), x::part);
            Due.is("01|23", () -> Villages.sides(x));
        });
        holds("An object is used for at most 512 calls", () -> {
            VillageFeud x = Villages.of(2, "");
            int calls = 2;
            for (; calls < 510; calls++) {
                x.bond(0, 1, 1 + calls % 2);
            }
            Due.is(2, () -> x.weight(0, 1));
            Due.is(7, x::undo);
        });
    }

    private static void households() {
        part("Terms");
        setsNothing("The class is not thread-safe.");
        holds("All divisions of numbers are rounded down", () -> {
            VillageFeud odd = Villages.of(3, "01=5 12=2");
            odd.part();
            Due.is(2, odd::feudAgain);
            Due.is(3.5, odd::meanWeight);
            Due.is(2.0f / 7, odd::feudShare);
            Due.is(3, () -> Villages.of(3, "01=1 12=1 02=1").leastSides());
        });
        holds("At most 9 households are there, numbered from 0.", () -> {
            VillageFeud x = new VillageFeud();
            Due.is(0, x::household);
            Due.is(9, () -> Villages.run(Villages.of(0, ""),
                    "house;house;house;house;house;house;house;house;house"));
            refused(() -> Villages.of(9, ""), 1, 9, VillageFeud::household);
            Due.is(0, () -> Villages.of(9, "").householdOf(8, 0));
            Due.fails(INDEX, () -> Villages.of(9, "").householdOf(9, 0));
            VillageFeud again = Villages.of(9, "");
            again.leave(4);
            Due.is(8, again::household);
            Due.fails(REFUSED, again::household);
        });
        holds("When one goes, the numbers of later ones become 1 less.", () -> {
            for (int gone = 0; gone < 9; gone++) {
                VillageFeud left = Villages.of(9, "01=1 12=2 23=3 34=4 45=5 56=6 67=7 78=8");
                left.stand(3, 1);
                left.stand(8, 1);
                left.leave(gone);
                for (int other = 0; other < 7; other++) {
                    int one = other;
                    int then = one < gone ? one : one + 1;
                    int due = one + 1 == gone ? 0 : then + 1;
                    Due.is(due, () -> left.weight(one, one + 1));
                    Due.is(then == 3 ? 1 : 0, () -> left.householdOf(one, 0));
                }
            }
            VillageFeud told = Villages.of(4, "23=5");
            Villages.run(told, "go 0;go 0");
            Due.is("01=5", () -> Villages.bonds(told));
            VillageFeud married = Villages.of(4, "23=5");
            married.marry(1, 0);
            Due.is("12=5", () -> Villages.bonds(married));
        });
        holds("A set of households is told as a number with the bit k", () -> {
            for (int k = 0; k < 9; k++) {
                int household = k;
                Due.is(1 << k, () -> Villages.of(9, "").partOf(household));
                Due.is(8, () -> Villages.full().tied(1 << household, 511 - (1 << household)));
            }
            Due.is(256, () -> Villages.full().phaseOf(0, 4));
        });
    }

    private static void bonds() {
        holds("Between two households there is a bond, with a weight from 1 to 99", () -> {
            for (int weight = 1; weight <= 99; weight++) {
                int told = weight;
                VillageFeud x = Villages.of(2, "");
                Due.is(0, () -> x.weight(0, 1));
                Due.is(0, () -> x.bond(0, 1, told));
                Due.is(told, () -> x.weight(1, 0));
            }
            refused(() -> Villages.of(2, ""), 4, 0, x -> x.bond(0, 1, 0));
            refused(() -> Villages.of(2, ""), 4, 100, x -> x.bond(0, 1, 100));
        });
        holds("How much two households are tied is the weight of their bond", () -> {
            Due.is(0, () -> Villages.ring().weight(0, 2));
            for (int set = 0; set < 16; set++) {
                for (int other = 0; other < 16; other++) {
                    int one = set;
                    int two = other & ~set;
                    Due.is(sumOfPairs(one, two), () -> Villages.ring().tied(one, two));
                }
            }
        });
    }

    /** How much two sets of the ring are tied. */
    private static int sumOfPairs(int set, int other) {
        int sum = 0;
        int[][] bonds = {{0, 1, 5}, {1, 2, 3}, {2, 3, 4}, {0, 3, 2}};
        for (int[] bond : bonds) {
            int one = 1 << bond[0];
            int two = 1 << bond[1];
            boolean isOver = (set & one) != 0 && (other & two) != 0
                    || (set & two) != 0 && (other & one) != 0;
            sum += isOver ? bond[2] : 0;
        }
        return sum;
    }

    private static void marriages() {
        holds("When a household marries another one, it gets all bonds of that one", () -> {
            VillageFeud x = Villages.of(9, "01=99 02=99 12=99 13=98 28=97 38=1");
            x.marry(1, 2);
            // 8 is 7 now, and 3 is 2
            Due.is("01=198 12=98 17=97 27=1", () -> Villages.bonds(x));
            VillageFeud heavy = Villages.of(9, "08=99 18=99 28=99 38=99 48=99 58=99 68=99 78=99");
            for (int more = 0; more < 7; more++) {
                heavy.marry(0, 1);
            }
            Due.is("01=792", () -> Villages.bonds(heavy));
            heavy.marry(1, 0);
            Due.is("", () -> Villages.bonds(heavy));
            VillageFeud loose = Villages.of(3, "12=4");
            loose.marry(0, 1);
            Due.is("01=4", () -> Villages.bonds(loose));
        });
        holds("Then the other one goes.", () -> {
            VillageFeud x = Villages.of(9, "");
            for (int size = 8; size >= 1; size--) {
                int due = size;
                x.marry(size, size - 1);
                Due.is(due, () -> x.account(0));
                Due.is(9 - due, () -> x.account(6));
            }
            refused(() -> {
                VillageFeud y = Villages.of(2, "");
                y.marry(1, 0);
                return y;
            }, 2, 1, y -> y.leave(1));
        });
    }

    private static void feuds() {
        holds("A division parts all households into two sides", () -> {
            for (int side = 0; side < 16; side++) {
                VillageFeud x = Villages.ring();
                for (int household = 0; household < 4; household++) {
                    if ((side >> household & 1) == 1) {
                        x.stand(household, 1);
                    }
                }
                Due.is(sumOfPairs(side, 15 & ~side), x::feud);
                Due.is(sumOfPairs(side, 15 & ~side), x::feudAgain);
            }
        });
        holds("Each household stands on a side, at first on the side 0", () -> {
            VillageFeud x = Villages.full();
            Due.is("012345678|", () -> Villages.sides(x));
            Due.is(0, x::feud);
            for (int household = 0; household < 9; household++) {
                x.stand(household, 1);
            }
            Due.is("|012345678", () -> Villages.sides(x));
            Due.is(0, x::feud);
            Due.is(8, () -> x.ifMoved(0));
        });
    }

    private static void phases() {
        holds("If there are two households or more, there are phases, numbered from 0.", () -> {
            Due.is(0, () -> Villages.of(1, "").phases());
            Due.fails(INDEX, () -> Villages.of(1, "").tellPhase(0));
            Due.is(1, () -> Villages.of(2, "").phases());
            Due.is("0<1=0", () -> Villages.phase(Villages.of(2, ""), 0));
            Due.fails(INDEX, () -> Villages.of(2, "").tellPhase(1));
            Due.fails(INDEX, () -> Villages.of(2, "").tellPhase(-1));
        });
        holds("In the phase 0 each household is a group alone.", () -> {
            Due.is("0<1=5", () -> Villages.phase(Villages.of(2, "01=5"), 0));
            for (int size = 2; size <= 9; size++) {
                int groups = size;
                Due.is(groups, () -> Villages.of(groups, "").phaseOf(0, 1));
                Due.is(groups - 1, () -> Villages.of(groups, "").joined(0, groups - 1));
            }
        });
    }

    private static void phasesInOrder() {
        holds("In a phase the groups join one after the other", () -> {
            // 0 is the first one, though it is tied the least
            Due.is("0<3<1<2=100", () -> Villages.phase(
                    Villages.of(4, "03=1 12=99 23=1 13=2"), 0));
            // of several that are tied the most, the lowest one
            Due.is("0<1<2<3=3", () -> Villages.phase(Villages.of(4, "01=3 02=3 03=3"), 0));
            // what joins is tied with all that joined, not with the first or the latest one alone
            Due.is("0<1<3<2=4", () -> Villages.phase(Villages.of(4, "01=5 02=3 12=1 03=2 13=3"), 0));
            Due.is("0<1<2<3=4", () -> Villages.phase(Villages.of(4, "01=5 02=4 12=1 03=1 13=3"), 0));
            // several groups are tied the same, and the merged one has the lowest household
            Due.is("0<13<2=1", () -> Villages.phase(Villages.of(4, "02=1 03=1 13=2"), 1));
        });
        holds("The cut of the phase is how much the group that joined last is tied", () -> {
            Due.is(6, () -> Villages.ring().phaseOf(0, 0));
            Due.is(7, () -> Villages.ring().phaseOf(2, 0));
            Due.is(0, () -> Villages.of(3, "01=9").phaseOf(0, 0));
            for (int phase = 0; phase < 5; phase++) {
                int of = phase;
                VillageFeud x = Villages.crowds();
                int last = x.phaseOf(phase, 4);
                Due.is(x.tied(last, 63 & ~last), () -> x.phaseOf(of, 0));
            }
        });
        holds("For the next phase the two groups that joined last are one", () -> {
            VillageFeud x = Villages.of(5, "02=9 03=8 23=1 04=2 14=3 12=1");
            Due.is("0<2<3<4<1=4", () -> Villages.phase(x, 0));
            Due.is("0<2<3<14=3", () -> Villages.phase(x, 1));
            Due.is("0<134<2=11", () -> Villages.phase(x, 2));
            Due.is("0<1234=19", () -> Villages.phase(x, 3));
            Due.is(4, x::phases);
            Due.fails(INDEX, () -> x.tellPhase(4));
            Due.is("0<1=7", () -> Villages.phase(Villages.of(2, "01=7"), 0));
            Due.is(1, () -> Villages.of(2, "01=7").phases());
        });
    }

    private static void leastFeud() {
        holds("The least feud is the least cut of all phases", () -> {
            Due.is(5, () -> Villages.ring().least());
            Due.is(1, () -> Villages.ring().met());
            // all cuts are 4, and the first phase has it
            Due.is(4, () -> Villages.of(3, "01=4 12=4").least());
            Due.is(0, () -> Villages.of(3, "01=4 12=4").met());
            Due.is(0, () -> Villages.of(9, "").met());
            Due.is(7, () -> Villages.of(9, "01=1 12=9 23=9 34=9 45=9 56=9 67=9 78=9").met());
        });
        holds("The feud between two households is the least feud of all divisions", () -> {
            Due.is(4, () -> Villages.of(2, "01=4").between(0, 1));
            // 0 and 1 stand on one side in the division of the least feud
            Due.is(1, () -> Villages.of(3, "01=9 12=1").least());
            Due.is(9, () -> Villages.of(3, "01=9 12=1").between(0, 1));
            Due.is(1, () -> Villages.of(3, "01=9 12=1").between(2, 0));
            Due.is(0, () -> Villages.of(3, "01=9").between(2, 0));
        });
    }

    /** The text is read as a whole in a village of 9 households, be an order refused or not. */
    private static void isText(String text) {
        VillageFeud x = Villages.of(9, "01=1");
        Villages.type(x, text);
        try {
            x.run();
        } catch (UnsupportedOperationException refused) {
            Due.is(8, () -> x.reason(0, false));
        }
        Due.is(-1, x::faultPosition);
    }

    private static void isNoText(int fault, String text) {
        VillageFeud x = Villages.of(9, "01=1");
        Due.fails(ARGUMENT, () -> Villages.run(x, text));
        Due.is(fault, x::faultPosition);
    }

    private static void texts() {
        holds("The form of a text of orders is", () -> {
            isText("part");
            isNoText(0, "");
        });
        holds("text = order { \";\" order }", () -> {
            isText("part;part");
            isText("part;part;part;part;part;part;part;part;part;part;part;part");
            isNoText(0, ";");
            isNoText(0, ";part");
            isNoText(5, "part;");
            isNoText(5, "part;;part");
            isNoText(4, "part part");
            isNoText(5, "part; part");
            isNoText(4, "part,part");
        });
        holds("order = \"house\" | \"go \" digit", () -> {
            for (String order : new String[] {"house", "go 0", "go 9", "bond 0 9 1", "bond 9 0 99",
                "loose 0 9", "loose 9 0", "marry 9 0", "marry 0 9", "side 0 9", "side 9 0", "part"}) {
                isText(order);
                isNoText(order.length() + 1, order + ";");
                isNoText(0, " " + order);
                isNoText(0, order.toUpperCase());
                for (int length = 1; length < order.length(); length++) {
                    if (!order.substring(0, length).equals("bond 9 0 9")) {
                        isNoText(length, order.substring(0, length));
                        isNoText(length, order.substring(0, length) + "!");
                    }
                }
                if (!order.equals("bond 0 9 1")) {
                    isNoText(order.length(), order + "0");
                }
            }
            isNoText(4, "go 0 ");
            isNoText(8, "side 0 1 0");
        });
        holds("number = digit [ digit ]", () -> {
            for (String number : new String[] {"0", "1", "9", "00", "01", "10", "99"}) {
                isText("bond 0 1 " + number);
                isText("bond 0 1 " + number + ";part");
            }
            isNoText(9, "bond 0 1 ");
            isNoText(9, "bond 0 1 ;");
            isNoText(11, "bond 0 1 100");
            isNoText(11, "bond 0 1 001");
            isNoText(9, "bond 0 1 -1");
            isNoText(10, "bond 0 1 1 ");
        });
        holds("where braces mean zero or more repetitions", () -> {
            isText("go 8");
            isText("go 8;go 7;go 6;go 5;go 4;go 3;go 2;go 1;go 0;house;house");
            for (char digit = '0'; digit <= '9'; digit++) {
                isText("go " + digit);
                isText("bond 0 1 " + digit);
                isText("bond 0 1 0" + digit);
            }
            isNoText(3, "go /");
            isNoText(3, "go :");
            isNoText(9, "bond 0 1 /");
            isNoText(10, "bond 0 1 1:");
        });
    }

    private static void ordersOfTexts() {
        holds("The orders are: house, a household comes", () -> {
            tells("house", "01=5 12=7 23=9", "01234|", 5);
            tells("go 1", "12=9", "012|", 3);
            tells("bond 3 0 99", "01=5 03=99 12=7 23=9", "0123|", 4);
            tells("bond 1 0 09", "01=9 12=7 23=9", "0123|", 4);
            tells("loose 2 1", "01=5 23=9", "0123|", 4);
            tells("marry 3 1", "02=5 12=16", "012|", 3);
            tells("marry 1 3", "01=5 12=16", "012|", 3);
            tells("side 2 1", "01=5 12=7 23=9", "013|2", 4);
            tells("part", "01=5 12=7 23=9", "0|123", 4);
            tells("side 0 1;side 0 0", "01=5 12=7 23=9", "0123|", 4);
        });
    }

    /** A chain of four is so after a text. */
    private static void tells(String text, String bonds, String sides, int size) {
        VillageFeud x = Villages.of(4, "01=5 12=7 23=9");
        Due.is(text.split(";").length, () -> Villages.run(x, text));
        Due.is(bonds, () -> Villages.bonds(x));
        Due.is(sides, () -> Villages.sides(x));
        Due.is(size, () -> x.account(0));
    }

    private static void faults() {
        holds("The fault position of a text is the index of the first character", () -> {
            isNoText(0, "");
            isNoText(0, "?");
            isNoText(1, "h");
            isNoText(1, "h?");
            isNoText(4, "hous");
            isNoText(3, "houze");
            isNoText(1, "gp 1");
            isNoText(2, "go");
            isNoText(2, "go1");
            isNoText(2, "lose 0 1");
            isNoText(1, "merry 0 1");
            isNoText(3, "mary 0 1");
            isNoText(7, "part;si");
            isNoText(8, "part;sidf 0 1");
            isNoText(59, "part;part;part;part;part;part;part;part;part;part;part;part!");
            isNoText(60, "part;part;part;part;part;part;part;part;part;part;part;part;");
        });
    }
}
