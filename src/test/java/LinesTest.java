/** Promises 38 to 41: lines of text. */
public final class LinesTest {
    private static final Class<? extends RuntimeException> INDEX = IndexOutOfBoundsException.class;

    public static void main(String[] args) {
        tell();
        tellPhase();
        tellSides();
        character();
        Due.end();
    }

    private static void tell() {
        VillageFeud x = Villages.of(5, "41=3 10=20");
        Due.is(10, x::tell);
        Due.is("01=20 14=3", () -> Villages.bonds(x));
        Due.is("01=1", () -> Villages.bonds(Villages.of(2, "01=1")));
        Due.is(0, () -> new VillageFeud().tell());
        Due.is(0, () -> Villages.of(9, "").tell());
        VillageFeud heavy = Villages.of(4, "02=99 12=99 03=99 13=99");
        heavy.marry(0, 1);
        Due.is("01=198 02=198", () -> Villages.bonds(heavy));
        VillageFeud full = Villages.of(9, "");
        StringBuilder due = new StringBuilder();
        for (int one = 0; one < 9; one++) {
            for (int other = one + 1; other < 9; other++) {
                full.bond(other, one, 99 - one - other);
                due.append(due.length() == 0 ? "" : " ");
                due.append(one).append(other).append('=').append(99 - one - other);
            }
        }
        Due.is(36 * 6 - 1, full::tell);
        Due.is(due, () -> Villages.bonds(full));
    }

    private static void tellPhase() {
        VillageFeud x = Villages.of(4, "02=5 12=3 13=4");
        Due.is("0<2<1<3=4", () -> Villages.phase(x, 0));
        Due.is("0<2<13=3", () -> Villages.phase(x, 1));
        Due.is("0<123=5", () -> Villages.phase(x, 2));
        Due.is(7, () -> x.tellPhase(2));
        Due.is("0<1=0", () -> Villages.phase(Villages.of(2, ""), 0));
        Due.is("0<1<2<3<4<5<6<7<8=0", () -> Villages.phase(Villages.of(9, ""), 0));
        Due.is("0<12345678=0", () -> Villages.phase(Villages.of(9, ""), 7));
        Due.fails(INDEX, () -> x.tellPhase(3));
        Due.fails(INDEX, () -> x.tellPhase(-1));
        Due.fails(INDEX, () -> x.tellPhase(Integer.MIN_VALUE));
        Due.fails(INDEX, () -> new VillageFeud().tellPhase(0));
        Due.fails(INDEX, () -> Villages.of(1, "").tellPhase(0));
        Due.fails(INDEX, () -> Villages.of(9, "").tellPhase(8));
    }

    private static void tellSides() {
        VillageFeud x = Villages.of(5, "");
        Due.is("01234|", () -> Villages.sides(x));
        x.stand(3, 1);
        x.stand(1, 1);
        Due.is("024|13", () -> Villages.sides(x));
        Due.is(6, x::tellSides);
        x.stand(0, 1);
        x.stand(2, 1);
        x.stand(4, 1);
        Due.is("|01234", () -> Villages.sides(x));
        Due.is(1, () -> new VillageFeud().tellSides());
    }

    private static void character() {
        VillageFeud x = new VillageFeud();
        Due.fails(INDEX, () -> x.character(0));
        Due.fails(INDEX, () -> x.character(-1));
        x.household();
        x.household();
        x.bond(0, 1, 7);
        Due.fails(INDEX, () -> x.character(0));
        x.tell();
        Due.is('0', () -> x.character(0));
        Due.is('=', () -> x.character(2));
        Due.is('7', () -> x.character(3));
        Due.fails(INDEX, () -> x.character(4));
        Due.fails(INDEX, () -> x.character(-1));
        Due.fails(INDEX, () -> x.character(Integer.MAX_VALUE));
        Due.fails(INDEX, () -> x.character(Integer.MIN_VALUE));
        Due.fails(INDEX, () -> x.tellPhase(1));
        Due.is("01=7", () -> Villages.line(x, 4));
        x.leave(0);
        x.undo();
        x.save();
        x.restore();
        Due.is("01=7", () -> Villages.line(x, 4));
        x.tellSides();
        Due.is("01|", () -> Villages.line(x, 3));
        x.loosen(0, 1);
        x.tell();
        Due.fails(INDEX, () -> x.character(0));
    }
}
