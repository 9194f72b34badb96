/** Long runs of calls, chosen by a fixed sequence of numbers, against the model: all promises. */
public final class ModelTest extends Check {
    private static final int RUNS = 600;
    private static final int CALLS = 512;
    private static final int[] ODD_NUMBERS = {-1, 5, 7, 9, 10, 21, 34, 35, 60, 99, 100, -99, -100,
        Integer.MIN_VALUE, Integer.MAX_VALUE};

    private final PillowBarge b = new PillowBarge();
    private final Model m = new Model();
    private final int run;
    private long seed;
    private int call = 0;
    private String waiting = "";

    private ModelTest(int run) {
        this.run = run;
        this.seed = run * 7919L + 17;
    }

    public static void main(String[] args) {
        for (int run = 0; run < RUNS && wrongSoFar() < 20; run++) {
            new ModelTest(run).runCalls();
        }
        end("ModelTest");
    }

    private void runCalls() {
        int wrongBefore = wrongSoFar();
        while (call < CALLS && wrongSoFar() == wrongBefore) {
            if (!waiting.isEmpty()) {
                typeNext();
            } else if (oneIn(2)) {
                changeOne();
            } else {
                askOne();
            }
        }
    }

    /** A number from 0 up to the bound, without it. */
    private int below(int bound) {
        seed = seed * 6364136223846793005L + 1442695040888963407L;
        return (int) ((seed >>> 33) % bound);
    }

    private boolean oneIn(int chances) {
        return below(chances) == 0;
    }

    private int number(int bound) {
        return oneIn(25) ? ODD_NUMBERS[below(ODD_NUMBERS.length)] : below(bound);
    }

    private int bay() {
        return number(7);
    }

    private int weight() {
        return oneIn(3) ? number(20) + 1 : below(5) + 1;
    }

    private int pillow() {
        return Math.max(-1, m.loadedTotal() - 1 - number(16));
    }

    private void same(String name, Call barge, Call model) {
        // What an object answers after its 512th call is free.
        if (call == CALLS) {
            return;
        }
        call++;
        due("run " + run + ", call " + call + ": " + name, outcome(barge), outcome(model));
    }

    private void typeNext() {
        char next = waiting.charAt(0);
        waiting = waiting.substring(1);
        same("type " + next, () -> b.type(next), () -> m.type(next));
        if (waiting.isEmpty()) {
            same("runScript", () -> b.runScript(), () -> m.runScript());
        }
    }

    private void changeOne() {
        int bay = bay();
        int other = bay();
        int weight = weight();
        int port = number(5);
        int legs = number(21);
        int limit = oneIn(3) ? number(100) : 60 + below(40);
        int push = number(199) - 99;
        char character = (char) (oneIn(9) ? number(65536) : 32 + below(95));
        switch (below(26)) {
            case 0, 1, 2, 3, 4, 5, 6, 7 -> same("load " + bay + " " + weight + " " + port,
                    () -> b.load(bay, weight, port), () -> m.load(bay, weight, port));
            case 8, 9 -> same("unload " + bay, () -> b.unload(bay), () -> m.unload(bay));
            case 10, 11, 12 -> same("shift " + bay + " " + other,
                    () -> b.shift(bay, other), () -> m.shift(bay, other));
            case 13, 14 -> same("sail " + legs, () -> b.sail(legs), () -> m.sail(legs));
            case 15 -> same("turn", () -> b.turn(), () -> m.turn());
            case 16 -> same("setLimit " + limit, () -> b.setLimit(limit), () -> m.setLimit(limit));
            case 17 -> same("drill " + push, () -> b.drill(push), () -> m.drill(push));
            case 18, 19, 20 -> undoSome();
            case 21 -> same("save", () -> b.save(), () -> m.save());
            case 22 -> sometimesRestore();
            case 23 -> same("type " + (int) character, () -> b.type(character), () -> m.type(character));
            default -> waiting = script();
        }
    }

    private void undoSome() {
        int times = oneIn(6) ? 10 : 1;
        for (int time = 0; time < times; time++) {
            same("undo", () -> b.undo(), () -> m.undo());
        }
    }

    private void sometimesRestore() {
        if (oneIn(2)) {
            same("restore", () -> b.restore(), () -> m.restore());
        }
    }

    private String script() {
        StringBuilder text = new StringBuilder(command());
        while (!oneIn(4)) {
            text.append(';').append(command());
        }
        if (oneIn(3)) {
            spoil(text);
        }
        return oneIn(4) || text.length() <= 60 ? text.toString() : text.substring(0, text.lastIndexOf(";", 60));
    }

    private String command() {
        return switch (below(9)) {
            case 0, 1, 2 -> "load " + below(7) + " " + weight() % 100 + " " + below(5);
            case 3 -> "unload " + below(8);
            case 4 -> "shift " + below(7) + " " + below(7);
            case 5 -> oneIn(2) ? "sail" : "sail " + below(25);
            case 6 -> "turn";
            case 7 -> "limit " + (oneIn(3) ? below(100) : 70 + below(30));
            default -> "drill " + (oneIn(2) ? "-" : "") + below(100);
        };
    }

    private void spoil(StringBuilder text) {
        int at = below(text.length());
        char character = oneIn(3) ? (char) (32 + below(95)) : " ;-0123456789adhilmnorstu".charAt(below(25));
        switch (below(4)) {
            case 0 -> text.deleteCharAt(at);
            case 1 -> text.insert(at, character);
            case 2 -> text.setCharAt(at, character);
            default -> text.setLength(at);
        }
        if (text.length() == 0) {
            text.append(' ');
        }
    }

    private void askOne() {
        int bay = bay();
        int position = number(5);
        int weight = weight();
        int port = number(5);
        int pillow = pillow();
        int legs = number(100);
        int rank = number(12);
        int index = number(20);
        switch (below(43)) {
            case 0 -> same("pillowCount", () -> b.pillowCount(), () -> m.pillowCount());
            case 1 -> same("stackHeight " + bay, () -> b.stackHeight(bay), () -> m.stackHeight(bay));
            case 2 -> same("pillowAt " + bay + " " + position,
                    () -> b.pillowAt(bay, position), () -> m.pillowAt(bay, position));
            case 3 -> same("weightOf " + pillow, () -> b.weightOf(pillow), () -> m.weightOf(pillow));
            case 4 -> same("destinationOf " + pillow, () -> b.destinationOf(pillow), () -> m.destinationOf(pillow));
            case 5 -> same("bayOf " + pillow, () -> b.bayOf(pillow), () -> m.bayOf(pillow));
            case 6 -> same("positionOf " + pillow, () -> b.positionOf(pillow), () -> m.positionOf(pillow));
            case 7 -> same("ageOf " + pillow, () -> b.ageOf(pillow), () -> m.ageOf(pillow));
            case 8 -> same("moment", () -> b.moment(), () -> m.moment());
            case 9 -> same("momentByBays", () -> b.momentByBays(), () -> m.moment());
            case 10 -> same("totalWeight", () -> b.totalWeight(), () -> m.totalWeight());
            case 11 -> same("weightFor " + port, () -> b.weightFor(port), () -> m.weightFor(port));
            case 12 -> same("limit", () -> b.limit(), () -> m.limit());
            case 13 -> same("listAngle", () -> b.listAngle(), () -> m.listAngle());
            case 14 -> same("greatestPush", () -> b.greatestPush(), () -> m.greatestPush());
            case 15 -> same("levelingBay " + weight, () -> b.levelingBay(weight), () -> m.levelingBay(weight));
            case 16 -> same("port", () -> b.port(), () -> m.port());
            case 17 -> same("day", () -> b.day(), () -> m.day());
            case 18 -> same("isAscending", () -> b.isAscending(), () -> m.isAscending());
            case 19 -> same("legsTo " + port, () -> b.legsTo(port), () -> m.legsTo(port));
            case 20 -> same("portAfter " + legs, () -> b.portAfter(legs), () -> m.portAfter(legs));
            case 21 -> same("pillowsInTheWay " + pillow,
                    () -> b.pillowsInTheWay(pillow), () -> m.pillowsInTheWay(pillow));
            case 22 -> same("pairsInTheWay", () -> b.pairsInTheWay(), () -> m.pairsInTheWay());
            case 23 -> same("pairsInTheWayByStacks", () -> b.pairsInTheWayByStacks(), () -> m.pairsInTheWay());
            case 24 -> same("unloadableCount", () -> b.unloadableCount(), () -> m.unloadableCount());
            case 25 -> same("oldestIn " + bay, () -> b.oldestIn(bay), () -> m.oldestIn(bay));
            case 26 -> same("heaviestPort", () -> b.heaviestPort(), () -> m.heaviestPort());
            case 27 -> same("possibleShifts", () -> b.possibleShifts(), () -> m.possibleShifts());
            case 28 -> same("pillowByTurn " + rank, () -> b.pillowByTurn(rank), () -> m.pillowByTurn(rank));
            case 29 -> same("bayByWeight " + rank, () -> b.bayByWeight(rank), () -> m.bayByWeight(rank));
            case 30 -> same("loadedTotal", () -> b.loadedTotal(), () -> m.loadedTotal());
            case 31 -> same("deliveredTotal", () -> b.deliveredTotal(), () -> m.deliveredTotal());
            case 32 -> same("deliveredWeight", () -> b.deliveredWeight(), () -> m.deliveredWeight());
            case 33 -> same("drillTotal", () -> b.drillTotal(), () -> m.drillTotal());
            case 34 -> same("capsizedTotal", () -> b.capsizedTotal(), () -> m.capsizedTotal());
            case 35 -> same("meanAge", () -> b.meanAge(), () -> m.meanAge());
            case 36 -> same("capsizedShare", () -> b.capsizedShare(), () -> m.capsizedShare());
            case 37 -> same("isConsistent", () -> b.isConsistent(), () -> true);
            case 38 -> same("renderStack " + bay, () -> b.renderStack(bay), () -> m.renderStack(bay));
            case 39 -> same("renderBarge", () -> b.renderBarge(), () -> m.renderBarge());
            case 40 -> same("outputAt " + index, () -> b.outputAt(index), () -> m.outputAt(index));
            case 41 -> same("errorPosition", () -> b.errorPosition(), () -> m.errorPosition());
            default -> same("failedCommand", () -> b.failedCommand(), () -> m.failedCommand());
        }
    }
}
