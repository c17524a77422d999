/** Villages for tests, and what tests do with them again and again. */
final class Villages {
    private Villages() {
    }

    /** A village with households, and with bonds told as "01=20 14=3". */
    static VillageFeud of(int households, String bonds) {
        VillageFeud village = new VillageFeud();
        for (int household = 0; household < households; household++) {
            village.household();
        }
        for (String bond : bonds.isEmpty() ? new String[0] : bonds.split(" ")) {
            village.bond(bond.charAt(0) - '0', bond.charAt(1) - '0',
                    Integer.parseInt(bond.substring(3)));
        }
        return village;
    }

    /** A ring of four with a chord less: the phases are 0<1<2<3=6, 0<1<23=5 and 0<123=7. */
    static VillageFeud ring() {
        return of(4, "01=5 12=3 23=4 03=2");
    }

    /** Two crowds, 012 and 345, tied by 23=2 alone. */
    static VillageFeud crowds() {
        return of(6, "01=7 02=8 12=9 34=6 35=5 45=4 23=2");
    }

    static void type(VillageFeud village, String signs) {
        for (int index = 0; index < signs.length(); index++) {
            village.append(signs.charAt(index));
        }
    }

    static int run(VillageFeud village, String signs) {
        type(village, signs);
        return village.run();
    }

    /** The line, whose length is told by the call that wrote it. */
    static String line(VillageFeud village, int length) {
        StringBuilder line = new StringBuilder();
        for (int index = 0; index < length; index++) {
            line.append(village.character(index));
        }
        Due.fails(IndexOutOfBoundsException.class, () -> village.character(length));
        return line.toString();
    }

    static String bonds(VillageFeud village) {
        return line(village, village.tell());
    }

    static String sides(VillageFeud village) {
        return line(village, village.tellSides());
    }

    static String phase(VillageFeud village, int phase) {
        return line(village, village.tellPhase(phase));
    }

    static String accounts(VillageFeud village) {
        StringBuilder accounts = new StringBuilder();
        for (int what = 0; what <= 10; what++) {
            accounts.append(what == 0 ? "" : " ").append(village.account(what));
        }
        return accounts.toString();
    }

    /** All that can be asked without changing anything, but the reasons. */
    static String state(VillageFeud village) {
        StringBuilder state = new StringBuilder(accounts(village)).append(" | ");
        int size = village.account(0);
        for (int one = 0; one < size; one++) {
            state.append(village.householdOf(one, 0)).append(':');
            for (int other = 0; other < size; other++) {
                state.append(village.weight(one, other)).append(' ');
            }
        }
        return state + "| " + lineNow(village) + " | " + village.faultPosition();
    }

    /** The reason and its cause, as " 8:1 2:7". */
    static String reasons(VillageFeud village) {
        StringBuilder reasons = new StringBuilder();
        for (int depth = 0; depth <= 1; depth++) {
            reasons.append(' ').append(reason(village, depth));
        }
        return reasons.toString();
    }

    private static String reason(VillageFeud village, int depth) {
        try {
            return village.reason(depth, false) + ":" + village.reason(depth, true);
        } catch (java.util.NoSuchElementException none) {
            return "none";
        }
    }

    /** The line, whose length is not known. */
    static String lineNow(VillageFeud village) {
        StringBuilder line = new StringBuilder();
        for (int index = 0; index < 1000; index++) {
            try {
                line.append(village.character(index));
            } catch (IndexOutOfBoundsException end) {
                return line.toString();
            }
        }
        return "endless";
    }

    /** All 36 bonds of 9 households, each with the weight 1. */
    static VillageFeud full() {
        VillageFeud village = of(9, "");
        for (int one = 0; one < 9; one++) {
            for (int other = one + 1; other < 9; other++) {
                village.bond(one, other, 1);
            }
        }
        return village;
    }
}
