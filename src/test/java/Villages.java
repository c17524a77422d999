/** Villages for tests, and what tests do with them again and again. */
final class Villages {
    private Villages() {
    }

    /** A village with households, and with bonds told as "01=20 14=3". */
    static VillageFeud of(int households, String bonds) {
        VillageFeud village = new VillageFeud();
        for (int household = 0; household < households; household++) {
            village.household();
        }
        for (String bond : bonds.isEmpty() ? new String[0] : bonds.split(" ")) {
            village.bond(bond.charAt(0) - '0', bond.charAt(1) - '0',
                    Integer.parseInt(bond.substring(3)));
        }
        return village;
    }

    /** A ring of four with a chord less: the phases are 0<1<2<3=6, 0<1<23=5 and 0<123=7. */
    static VillageFeud ring() {
        return of(4, "01=5 12=3 23=4 03=2");
    }

    /** Two crowds, 012 and 345, tied by 23=2 alone. */
    static VillageFeud crowds() {
        return of(6, "01=7 02=8 12=9 34=6 35=5 45=4 23=2");
    }

    static void type(VillageFeud village, String signs) {
        for (int index = 0; index < signs.length(); index++) {
            village.append(signs.charAt(index));
        }
    }

    static int run(VillageFeud village, String signs) {
        type(village, signs);
        return village.run();
    }

    /** The line, whose length is told by the call that wrote it. */
    static String line(VillageFeud village, int length) {
        StringBuilder line = new StringBuilder();
        for (int index = 0; index < length; index++) {
            line.append(village.character(index));
        }
        Due.fails(IndexOutOfBoundsException.class, () -> village.character(length));
        return line.toString();
    }

    static String bonds(VillageFeud village) {
        return line(village, village.tell());
    }

    static String sides(VillageFeud village) {
        return line(village, village.tellSides());
    }

    static String phase(VillageFeud village, int phase) {
        return line(village, village.tellPhase(phase));
    }

    static String accounts(VillageFeud village) {
        StringBuilder accounts = new StringBuilder();
        for (int what = 0; what <= 10; what++) {
            accounts.append(what == 0 ? "" : " ").append(village.account(what));
        }
        return accounts.toString();
    }
}
