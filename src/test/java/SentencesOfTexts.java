/** The sentences of the promises 34 to 41: the input, runs, faults, reasons, and lines of text. */
final class SentencesOfTexts extends Sentences {
    private static final Made EMPTY = VillageFeud::new;
    private static final Made LONELY = () -> Villages.of(1, "");
    private static final Made FULL = Villages::full;
    private static final String PARTS = "part;part;part;part;part;part;part;part;part;part;part;part";

    private SentencesOfTexts() {
    }

    static void tell() {
        append();
        run();
        runThrows();
        faultPosition();
        reason();
        tellBonds();
        tellPhase();
        tellSides();
        character();
    }

    /** An input of so many characters. */
    private static VillageFeud input(int length) {
        VillageFeud x = new VillageFeud();
        for (int k = 0; k < length; k++) {
            x.append('h');
        }
        return x;
    }

    private static void append() {
        part("Promise 34");
        holds("Appends a character to the input.", () -> {
            VillageFeud x = new VillageFeud();
            for (char sign : "house".toCharArray()) {
                x.append(sign);
            }
            Due.is(5, () -> x.account(9));
            Due.is(1, x::run);
            Due.is(1, () -> x.account(0));
            for (char sign = 32; sign <= 126; sign++) {
                char each = sign;
                Due.is(1, () -> new VillageFeud().append(each));
            }
        });
        holds("Returns the number of characters in the input.", () -> {
            VillageFeud x = new VillageFeud();
            for (int length = 1; length <= 60; length++) {
                Due.is(length, () -> x.append(' '));
            }
            Due.fails(ARGUMENT, x::run);
            Due.is(1, () -> x.append('~'));
        });
        holds("Throws `IllegalArgumentException` if its code is not from 32 to 126", () -> {
            for (int code : new int[] {0, 1, 10, 30, 31, 127, 128, 160, 255, 256, 65535}) {
                thrown(EMPTY, ARGUMENT, x -> x.append((char) code));
                thrown(() -> input(59), ARGUMENT, x -> x.append((char) code));
                thrown(() -> input(60), ARGUMENT, x -> x.append((char) code));
            }
        });
        holds("Throws `IllegalStateException` if the input contains 60 characters", () -> {
            Due.is(60, () -> input(59).append('h'));
            for (char sign = 32; sign <= 126; sign++) {
                char each = sign;
                thrown(() -> input(60), STATE, x -> x.append(each));
            }
        });
    }

    private static void run() {
        part("Promise 35");
        holds("Reads the input as a text and does its orders", () -> {
            VillageFeud x = new VillageFeud();
            Villages.run(x, "house;house;house;bond 0 1 1;bond 1 2 99;side 2 1");
            Due.is("01=1 12=99", () -> Villages.bonds(x));
            Due.is("01|2", () -> Villages.sides(x));
            Villages.run(x, "marry 0 1;bond 0 1 1;loose 1 0;part;go 1");
            Due.is("1 0 0 0 0 3 2 1 1 0 2", () -> Villages.accounts(x));
            Due.fails(REFUSED, () -> Villages.run(x, "house;house;bond 0 1 5;part;marry 1 0;go 9"));
            Due.is("1 0 0 0 0 3 2 1 1 0 2", () -> Villages.accounts(x));
            Due.is("0|", () -> Villages.sides(x));
            Due.fails(ARGUMENT, () -> Villages.run(x, "house;house;bond 0 1 5;"));
            Due.is(1, () -> x.account(0));
        });
        holds("The input is empty afterwards, also if an exception is thrown.", () -> {
            for (String text : new String[] {"house", "go 0", "hause", "house;", "", PARTS}) {
                VillageFeud x = new VillageFeud();
                Villages.type(x, text);
                try {
                    x.run();
                } catch (RuntimeException thrown) {
                    Due.is(true, () -> Due.isOwn(thrown));
                }
                Due.is(0, () -> x.account(9));
                Due.is(1, () -> Villages.run(x, "house"));
            }
        });
        holds("Returns the number of orders.", () -> {
            Due.is(1, () -> Villages.run(new VillageFeud(), "house"));
            Due.is(9, () -> Villages.run(new VillageFeud(),
                    "house;house;house;house;house;house;house;house;house"));
            Due.is(12, () -> Villages.run(Villages.full(), PARTS));
            Due.is(2, () -> Villages.run(Villages.of(2, "01=1"), "go 0;go 0"));
        });
    }

    private static void runThrows() {
        holds("Throws `IllegalArgumentException` if the text has a fault", () -> {
            for (String text : new String[] {"", ";", "House", "part ", "part;", "go 10", PARTS + ";"}) {
                VillageFeud x = Villages.of(2, "01=5");
                Due.fails(REFUSED, () -> x.leave(7));
                x.tellSides();
                String before = Villages.accounts(x);
                Due.fails(ARGUMENT, () -> Villages.run(x, text));
                Due.is(before, () -> Villages.accounts(x));
                Due.is(" 2:7 none", () -> Villages.reasons(x));
                Due.is("01|", () -> Villages.lineNow(x));
                Due.is("01=5", () -> Villages.bonds(x));
            }
            // the fault comes first, though an order ahead of it would be refused
            VillageFeud x = new VillageFeud();
            Due.fails(ARGUMENT, () -> Villages.run(x, "go 5;part;;"));
            Due.is(" none none", () -> Villages.reasons(x));
        });
        holds("Throws `UnsupportedOperationException` if an order is refused", () -> {
            String[] refused = {
                "go 3 2:3", "bond 0 9 5 2:9", "bond 1 1 5 3:1", "bond 0 1 0 4:0", "bond 1 0 5 5:5",
                "loose 3 0 2:3", "loose 0 0 3:0", "loose 0 2 6:1", "marry 0 3 2:3", "marry 2 2 3:2",
                "side 3 0 2:3", "side 0 9 4:9", "side 2 0 5:0", "go 0;go 0;part 7:1",
                "house;house;house;house;house;house;house 1:9",
            };
            for (String each : refused) {
                int end = each.lastIndexOf(' ');
                String text = each.substring(0, end);
                VillageFeud x = Villages.of(3, "01=5");
                String before = Villages.state(x);
                Due.fails(REFUSED, () -> Villages.run(x, text));
                int index = text.split(";").length - 1;
                Due.is(" 8:" + index + each.substring(end), () -> Villages.reasons(x));
                Due.is(before, () -> Villages.state(x));
            }
        });
    }

    private static void faultPosition() {
        part("Promise 36");
        holds("Returns the fault position of the latest text that was read.", () -> {
            VillageFeud x = new VillageFeud();
            Due.fails(ARGUMENT, () -> Villages.run(x, "house;go"));
            Due.is(8, x::faultPosition);
            Due.fails(ARGUMENT, () -> Villages.run(x, "hoose"));
            Due.is(2, x::faultPosition);
            Due.fails(ARGUMENT, () -> Villages.run(x, PARTS + ";"));
            Due.is(60, x::faultPosition);
            Due.fails(ARGUMENT, x::run);
            Due.is(0, x::faultPosition);
        });
        holds("Returns the fault position, or -1 if it had no fault or nothing was read.", () -> {
            VillageFeud x = new VillageFeud();
            Due.is(-1, x::faultPosition);
            x.append('?');
            Due.is(-1, x::faultPosition);
            Due.fails(ARGUMENT, x::run);
            Due.is(0, x::faultPosition);
            Villages.run(x, "house");
            Due.is(-1, x::faultPosition);
            Due.fails(ARGUMENT, () -> Villages.run(x, "house house"));
            Due.is(5, x::faultPosition);
            Due.fails(REFUSED, () -> Villages.run(x, "part"));
            Due.is(-1, x::faultPosition);
        });
    }

    /** A village of which a run was refused for its second order, as there is no household 7. */
    private static VillageFeud refusedRun() {
        VillageFeud x = Villages.of(2, "");
        Due.fails(REFUSED, () -> Villages.run(x, "house;go 7"));
        return x;
    }

    private static VillageFeud refusedCall() {
        VillageFeud x = refusedRun();
        Due.fails(REFUSED, () -> x.bond(0, 1, -5));
        return x;
    }

    private static void reason() {
        part("Promise 37");
        holds("Returns a number of the reason that is kept", () -> {
            Due.is(" 8:1 2:7", () -> Villages.reasons(refusedRun()));
            Due.is(" 4:-5 none", () -> Villages.reasons(refusedCall()));
            VillageFeud x = refusedRun();
            x.household();
            x.undo();
            Due.is(" 8:1 2:7", () -> Villages.reasons(x));
        });
        holds("`depth`: 0 for the reason, 1 for its cause", () -> {
            Due.is(8, () -> refusedRun().reason(0, false));
            Due.is(2, () -> refusedRun().reason(1, false));
        });
        holds("`isDetail`: true for the detail", () -> {
            Due.is(1, () -> refusedRun().reason(0, true));
            Due.is(7, () -> refusedRun().reason(1, true));
        });
        holds("Returns the number.", () -> {
            Due.is(4, () -> refusedCall().reason(0, false));
            Due.is(-5, () -> refusedCall().reason(0, true));
        });
        holds("Throws `IllegalArgumentException` if the depth is not 0 or 1", () -> {
            for (int depth : new int[] {Integer.MIN_VALUE, -1, 2, 3, Integer.MAX_VALUE}) {
                for (boolean isDetail : new boolean[] {true, false}) {
                    thrown(EMPTY, ARGUMENT, x -> x.reason(depth, isDetail));
                    thrown(() -> refusedRun(), ARGUMENT, x -> x.reason(depth, isDetail));
                }
            }
        });
        holds("Throws `NoSuchElementException` if nothing was refused", () -> {
            for (boolean isDetail : new boolean[] {true, false}) {
                thrown(EMPTY, NONE, x -> x.reason(0, isDetail));
                thrown(EMPTY, NONE, x -> x.reason(1, isDetail));
                thrown(() -> refusedCall(), NONE, x -> x.reason(1, isDetail));
            }
            VillageFeud faulty = new VillageFeud();
            Due.fails(ARGUMENT, faulty::run);
            Due.fails(STATE, faulty::undo);
            Due.fails(STATE, faulty::restore);
            Due.fails(INDEX, () -> faulty.partOf(0));
            Due.fails(NONE, () -> faulty.reason(0, false));
        });
    }

    private static void tellBonds() {
        part("Promise 38");
        holds("Writes all bonds as a line of text", () -> {
            Due.is("01=20 14=3", () -> Villages.bonds(Villages.of(5, "41=3 10=20")));
            Due.is("", () -> Villages.bonds(new VillageFeud()));
            Due.is("", () -> Villages.bonds(Villages.of(9, "")));
            Due.is("78=99", () -> Villages.bonds(Villages.of(9, "87=99")));
            VillageFeud x = Villages.of(2, "01=1");
            x.tell();
            x.loosen(0, 1);
            Due.is("01=1", () -> Villages.lineNow(x));
            x.tell();
            Due.is("", () -> Villages.lineNow(x));
            VillageFeud married = Villages.of(3, "02=99 12=99");
            married.marry(0, 1);
            Due.is("01=198", () -> Villages.bonds(married));
        });
        holds("Returns the length of the line.", () -> {
            Due.is(0, () -> new VillageFeud().tell());
            Due.is(4, () -> Villages.of(2, "01=9").tell());
            Due.is(5, () -> Villages.of(2, "01=10").tell());
            Due.is(36 * 5 - 1, () -> Villages.full().tell());
        });
    }

    private static void tellPhase() {
        part("Promise 39");
        holds("Writes a phase as a line of text", () -> {
            Due.is("0<2<13=7", () -> Villages.phase(Villages.of(4, "02=9 03=5 12=2 13=3"), 1));
            Due.is("0<1=99", () -> Villages.phase(Villages.of(2, "01=99"), 0));
            Due.is("0<1<2<3<4<5<6<7<8=8", () -> Villages.phase(Villages.full(), 0));
            Due.is("0<12345678=8", () -> Villages.phase(Villages.full(), 7));
            VillageFeud x = Villages.ring();
            x.tell();
            x.tellPhase(2);
            Due.is("0<123=7", () -> Villages.lineNow(x));
        });
        holds("Returns the length of the line.", () -> {
            Due.is(5, () -> Villages.of(2, "").tellPhase(0));
            Due.is(6, () -> Villages.of(2, "01=10").tellPhase(0));
            Due.is(19, () -> Villages.full().tellPhase(0));
            Due.is(12, () -> Villages.full().tellPhase(7));
        });
        holds("Throws `IndexOutOfBoundsException`", () -> {
            for (int nowhere : NOWHERE) {
                thrown(FULL, INDEX, x -> x.tellPhase(nowhere));
            }
            thrown(EMPTY, INDEX, x -> x.tellPhase(0));
            thrown(LONELY, INDEX, x -> x.tellPhase(0));
            thrown(FULL, INDEX, x -> x.tellPhase(8));
            thrown(() -> {
                VillageFeud x = Villages.of(2, "01=5");
                x.tell();
                return x;
            }, INDEX, x -> x.tellPhase(1));
        });
    }

    private static void tellSides() {
        part("Promise 40");
        holds("Writes the division as a line of text", () -> {
            VillageFeud x = Villages.of(5, "");
            x.stand(3, 1);
            x.stand(1, 1);
            Due.is("024|13", () -> Villages.sides(x));
            Due.is("|", () -> Villages.sides(new VillageFeud()));
            Due.is("012345678|", () -> Villages.sides(Villages.of(9, "")));
            VillageFeud y = Villages.of(2, "01=1");
            y.stand(0, 1);
            y.stand(1, 1);
            y.tell();
            y.tellSides();
            Due.is("|01", () -> Villages.lineNow(y));
        });
        holds("Returns the length of the line.", () -> {
            Due.is(1, () -> new VillageFeud().tellSides());
            Due.is(2, () -> Villages.of(1, "").tellSides());
            Due.is(10, () -> Villages.full().tellSides());
        });
    }

    private static void character() {
        part("Promise 41");
        holds("Returns a character of the line, which is empty at first.", () -> {
            Due.fails(INDEX, () -> new VillageFeud().character(0));
            Due.fails(INDEX, () -> Villages.full().character(0));
        });
        holds("`index`: the index, from 0", () -> {
            VillageFeud x = Villages.of(2, "01=7");
            x.tell();
            Due.is('0', () -> x.character(0));
            Due.is('7', () -> x.character(3));
        });
        holds("Returns the character.", () -> {
            VillageFeud x = Villages.full();
            int length = x.tell();
            Due.is('0', () -> x.character(0));
            Due.is(' ', () -> x.character(4));
            Due.is('1', () -> x.character(length - 1));
        });
        holds("Throws `IndexOutOfBoundsException`", () -> {
            for (int index : new int[] {Integer.MIN_VALUE, -1, 0, 1, Integer.MAX_VALUE}) {
                thrown(EMPTY, INDEX, x -> x.character(index));
            }
            for (int index : new int[] {Integer.MIN_VALUE, -1, 4, 5, Integer.MAX_VALUE}) {
                thrown(() -> {
                    VillageFeud x = Villages.of(2, "01=7");
                    x.tellPhase(0);
                    x.tell();
                    return x;
                }, INDEX, x -> x.character(index));
            }
        });
    }
}
