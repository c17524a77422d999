import java.lang.management.ManagementFactory;

/** The room of a run: the rows of an object are used again, so that calls leave little behind. */
public final class RoomTest {
    private static final int TURNS = 60;
    /** The boxes of the answers, and what the library may take for itself. */
    private static final int MOST_BYTES_A_TURN = 200;
    /** A new object has rows of some 1100 numbers. */
    private static final int MOST_BYTES_OF_ONE = 8000;
    private static final com.sun.management.ThreadMXBean THREADS =
            (com.sun.management.ThreadMXBean) ManagementFactory.getThreadMXBean();

    private RoomTest() {
    }

    public static void main(String[] args) {
        leavesLittle(x -> x.leave(8) + x.household() + x.bond(0, 8, 5) + x.marry(7, 8) + x.undo());
        leavesLittle(x -> x.loosen(0, 8) + x.bond(8, 0, 1) + x.stand(8, 1) + x.stand(8, 0));
        leavesLittle(x -> x.part() + x.save() + x.restore());
        leavesLittle(VillageFeud::isTold);
        leavesLittle(x -> x.phaseOf(7, 4) + x.joined(0, 8) + x.tieAt(0, 8) + x.met() + x.least());
        leavesLittle(x -> x.leastAgain() + x.leastSides());
        leavesLittle(x -> x.between(0, 8) + x.betweenAgain(0, 8));
        leavesLittle(x -> x.ifBond(0, 8, 50) + x.ifMoved(8) + x.bestMove());
        leavesLittle(x -> x.isCritical(0, 8));
        leavesLittle(x -> x.ranked(0, 8) + x.ranked(1, 8) + x.ranked(2, 8) + x.ranked(3, 8));
        leavesLittle(x -> x.parts() + x.partOf(8) + x.bondAt(35) + x.heaviest() + x.tied(255, 256));
        leavesLittle(x -> x.tell() + x.tellPhase(7) + x.tellSides());
        leavesLittle(x -> x.append('p') + x.append('a') + x.append('r') + x.append('t') + x.run());
        leavesLittle(x -> x.feudAgain() + x.meanWeight() + x.feudShare() + x.account(4));
        newOneIsSmall();
        Due.end();
    }

    /** The first turn may make rows that are kept, and no turn behind it does. */
    private static void leavesLittle(Sentences.Asked calls) {
        VillageFeud x = Villages.full();
        calls.answer(x);
        long before = THREADS.getCurrentThreadAllocatedBytes();
        for (int turn = 0; turn < TURNS; turn++) {
            calls.answer(x);
        }
        long bytes = THREADS.getCurrentThreadAllocatedBytes() - before;
        Due.is("little", () -> bytes <= TURNS * MOST_BYTES_A_TURN ? "little" : bytes + " bytes");
    }

    private static void newOneIsSmall() {
        VillageFeud first = new VillageFeud();
        long before = THREADS.getCurrentThreadAllocatedBytes();
        VillageFeud second = new VillageFeud();
        long bytes = THREADS.getCurrentThreadAllocatedBytes() - before;
        Due.is(first.feud(), second::feud);
        Due.is("little", () -> bytes <= MOST_BYTES_OF_ONE ? "little" : bytes + " bytes");
    }
}
