/** "If several exceptions apply, the one that is listed first is thrown", for each two that can apply at once. */
final class OrderSentences extends Sentences {
    static void test() {
        terms("If several exceptions apply, the one that is listed first is thrown.");
        load();
        unload();
        shift();
        others();
        scripts();
    }

    private static void load() {
        for (int bay : new int[] {-1, 7}) {
            refusesIndex("no bay, no weight", EMPTY, b -> b.load(bay, 0, 0));
            refusesIndex("no bay, no weight", EMPTY, b -> b.load(bay, 21, 0));
            refusesIndex("no bay, no port", EMPTY, b -> b.load(bay, 1, -1));
            refusesIndex("no bay, no port", EMPTY, b -> b.load(bay, 1, 5));
            refusesIndex("no bay, no weight, no port, a full barge", full(), b -> b.load(bay, 21, 5));
        }
        for (int weight : new int[] {0, 21}) {
            refusesArgument("no weight, five pillows", stack(3, 5), b -> b.load(3, weight, 0));
            refusesArgument("no weight, five pillows, the limit", stack(6, 5).then(limit(15)),
                    b -> b.load(6, weight, 0));
        }
        for (int port : new int[] {-1, 5}) {
            refusesArgument("no port, five pillows", stack(3, 5), b -> b.load(3, 1, port));
            refusesArgument("no port, the limit", limit(10), b -> b.load(6, 20, port));
        }
        refusesArgument("no weight, the limit", limit(10), b -> b.load(6, 21, 0));
        refusesState("five pillows, the limit", stack(6, 5).then(limit(15)), b -> b.load(6, 1, 0));
        refusesState("five pillows, the limit", stack(0, 5).then(limit(15)), b -> b.load(0, 1, 0));
    }

    private static void unload() {
        Calls tight = b -> {
            b.load(4, 5, 1);
            b.load(2, 15, 0);
            b.setLimit(10);
        };
        refusesState("another port, the limit", tight, b -> b.unload(4));
        refusesBalance("the limit alone", tight.then(b -> b.sail(1)), b -> b.unload(4));
        refusesElement("an empty stack in another port", b -> b.sail(1), b -> b.unload(4));
    }

    private static void shift() {
        for (int bay : new int[] {-1, 7}) {
            refusesIndex("no bay, both the same", EMPTY, b -> b.shift(bay, bay));
            refusesIndex("no second bay, the first is empty", EMPTY, b -> b.shift(2, bay));
            refusesIndex("no first bay, the second has five", stack(2, 5), b -> b.shift(bay, 2));
            refusesIndex("no second bay, the first is at the limit", tilt(60), b -> b.shift(6, bay));
        }
        for (int number = 0; number <= 6; number++) {
            int bay = number;
            refusesArgument("both the same and empty", EMPTY, b -> b.shift(bay, bay));
            refusesArgument("both the same with five", stack(bay, 5), b -> b.shift(bay, bay));
            refusesElement("the first empty, the second five", stack(bay, 5), b -> b.shift((bay + 1) % 7, bay));
        }
        Calls fiveAtTheLimit = stack(4, 5).then(b -> b.load(3, 20, 0)).then(limit(10));
        refusesState("five pillows, the limit", fiveAtTheLimit, b -> b.shift(3, 4));
        refusesBalance("the limit alone", fiveAtTheLimit.then(b -> b.unload(4)), b -> b.shift(3, 4));
    }

    private static void others() {
        for (int limit : new int[] {9, 0, -1}) {
            refusesArgument("no limit, the moment is greater", tilt(30), b -> b.setLimit(limit));
            refusesArgument("no limit, the moment is less", tilt(-30), b -> b.setLimit(limit));
        }
        refusesBalance("the moment is greater", tilt(30), b -> b.setLimit(10));
        for (int bay : new int[] {-1, 7}) {
            refusesIndex("no bay, no position", EMPTY, b -> b.pillowAt(bay, -1));
            refusesIndex("no bay, no position", full(), b -> b.pillowAt(bay, 5));
            refusesIndex("no bay, so no pillow", EMPTY, b -> b.oldestIn(bay));
            refusesIndex("no bay, so no pillow", EMPTY, b -> b.unload(bay));
        }
        for (int weight : new int[] {0, 21}) {
            refusesArgument("no weight, no bay left", full(), b -> b.levelingBay(weight));
        }
        Calls fullBuffer = script("turn;turn;turn;turn;turn;turn;turn;turn;turn;turn;turn;turn;");
        refusesArgument("no such character, a full buffer", fullBuffer, b -> b.type((char) 31));
        refusesArgument("no such character, a full buffer", fullBuffer, b -> b.type((char) 127));
        refusesState("a full buffer", fullBuffer, b -> b.type((char) 32));
    }

    private static void scripts() {
        Calls both = script("sail 0;turn;x");
        answers("a command that fails in a malformed script", "throws.IllegalArgumentException", both,
                b -> b.runScript());
        Calls run = both.then(b -> outcome(() -> b.runScript()));
        answers("the error position", 12, run, b -> b.errorPosition());
        refusesElement("no command has failed", run, b -> b.failedCommand());
        answers("the present rotation", true, run, b -> b.isAscending());
    }
}
