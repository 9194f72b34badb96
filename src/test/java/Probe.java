import java.util.function.Consumer;

/**
 * All that can be asked of an object, told as one text: two objects with the same text are in the same state.
 * Asking for undo, the snapshot and the buffer changes an object, so the calls are repeated on new ones.
 */
final class Probe extends Check {
    private static final int MOST_UNDONE = 9;

    private final PillowBarge b;
    private final StringBuilder text = new StringBuilder();
    private boolean drillsToo = true;

    private Probe(PillowBarge b) {
        this.b = b;
    }

    static String everything(Consumer<PillowBarge> calls) {
        return covered(calls) + snapshot(calls) + rest(calls);
    }

    /** The state that undo covers, now and after each undo. */
    static String covered(Consumer<PillowBarge> calls) {
        StringBuilder text = new StringBuilder();
        for (int undone = 0; undone <= MOST_UNDONE; undone++) {
            text.append("undone ").append(undone).append(": ").append(stateAfter(calls, undone)).append('\n');
        }
        return text.toString();
    }

    private static String stateAfter(Consumer<PillowBarge> calls, int undone) {
        Probe probe = new Probe(made(calls));
        for (int time = 0; time < undone; time++) {
            probe.tell(() -> probe.b.undo());
        }
        return probe.state();
    }

    static String now(Consumer<PillowBarge> calls) {
        return stateAfter(calls, 0);
    }

    /** The state but for the counts of drills. */
    static String besidesDrills(Consumer<PillowBarge> calls) {
        Probe probe = new Probe(made(calls));
        probe.drillsToo = false;
        return probe.state();
    }

    static String snapshot(Consumer<PillowBarge> calls) {
        Probe probe = new Probe(made(calls));
        probe.tell(() -> probe.b.restore());
        return "snapshot: " + probe.state() + '\n';
    }

    /** What undo does not cover, but for the snapshot. */
    static String rest(Consumer<PillowBarge> calls) {
        return "output: " + output(calls) + "\nscript: " + scriptAfter(calls) + '\n';
    }

    static String output(Consumer<PillowBarge> calls) {
        Probe probe = new Probe(made(calls));
        for (int index = 0; index <= 60; index++) {
            int place = index;
            probe.tell(() -> probe.b.outputAt(place));
        }
        return probe.text.toString();
    }

    private static String scriptAfter(Consumer<PillowBarge> calls) {
        Probe probe = new Probe(made(calls));
        PillowBarge b = probe.b;
        probe.tell(() -> b.errorPosition());
        probe.tell(() -> b.failedCommand());
        probe.tell(() -> b.runScript());
        probe.tell(() -> b.errorPosition());
        probe.tell(() -> b.failedCommand());
        probe.text.append(probe.state());
        Probe another = new Probe(made(calls));
        another.tell(() -> another.b.type('x'));
        return probe.text.toString() + another.text;
    }

    private static PillowBarge made(Consumer<PillowBarge> calls) {
        PillowBarge b = new PillowBarge();
        calls.accept(b);
        return b;
    }

    private void tell(Call call) {
        text.append(outcome(call)).append(' ');
    }

    private String state() {
        tellTotals();
        for (int bay = 0; bay < 7; bay++) {
            tellStack(bay);
        }
        for (int port = 0; port < 5; port++) {
            int index = port;
            tell(() -> b.weightFor(index));
            tell(() -> b.legsTo(index));
        }
        tell(() -> b.levelingBay(1));
        tell(() -> b.levelingBay(20));
        tell(() -> b.pillowByTurn(0));
        tell(() -> b.load(3, 1, 0));
        return text.toString();
    }

    private void tellTotals() {
        tell(() -> b.pillowCount());
        tell(() -> b.moment());
        tell(() -> b.momentByBays());
        tell(() -> b.totalWeight());
        tell(() -> b.limit());
        tell(() -> b.listAngle());
        tell(() -> b.greatestPush());
        tell(() -> b.port());
        tell(() -> b.day());
        tell(() -> b.isAscending());
        tell(() -> b.pairsInTheWay());
        tell(() -> b.pairsInTheWayByStacks());
        tell(() -> b.unloadableCount());
        tell(() -> b.possibleShifts());
        tell(() -> b.heaviestPort());
        tell(() -> b.loadedTotal());
        tell(() -> b.deliveredTotal());
        tell(() -> b.deliveredWeight());
        tell(() -> b.meanAge());
        tell(() -> b.isConsistent());
        if (drillsToo) {
            tell(() -> b.drillTotal());
            tell(() -> b.capsizedTotal());
            tell(() -> b.capsizedShare());
        }
    }

    private void tellStack(int bay) {
        int height = b.stackHeight(bay);
        text.append('/');
        tell(() -> b.oldestIn(bay));
        for (int position = 0; position < height; position++) {
            int pillow = b.pillowAt(bay, position);
            text.append(pillow).append(':');
            tell(() -> b.weightOf(pillow));
            tell(() -> b.destinationOf(pillow));
            tell(() -> b.bayOf(pillow));
            tell(() -> b.positionOf(pillow));
            tell(() -> b.ageOf(pillow));
            tell(() -> b.pillowsInTheWay(pillow));
        }
    }
}
