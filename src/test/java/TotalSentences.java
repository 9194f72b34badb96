/** The sentences of promises 39 to 46: what is counted so far, and the check of the state. */
final class TotalSentences extends Sentences {
    static void test() {
        loadedTotal();
        deliveredTotal();
        deliveredWeight();
        drillTotal();
        capsizedTotal();
        meanAge();
        capsizedShare();
        isConsistent();
        longestUse();
    }

    private static void loadedTotal() {
        says(39, "Returns how many pillows have been loaded so far.", "Returns the number of pillows.");
        answers("none", 0, EMPTY, b -> b.loadedTotal());
        answers("one", 1, stack(0, 1), b -> b.loadedTotal());
        answers("all", 35, full(), b -> b.loadedTotal());
        answers("a refused load", 5, stack(0, 5).then(b -> outcome(() -> b.load(0, 1, 0))), b -> b.loadedTotal());
        answers("an unload", 5, stack(0, 5).then(b -> b.unload(0)), b -> b.loadedTotal());
        answers("a shift", 5, stack(0, 5).then(b -> b.shift(0, 1)), b -> b.loadedTotal());
        answers("undo", 4, stack(0, 5).then(b -> b.undo()), b -> b.loadedTotal());
        answers("more than there is place for", 40, full().then(b -> {
            for (int pillow = 0; pillow < 5; pillow++) {
                b.unload(3);
                b.load(3, 1, 0);
            }
        }), b -> b.loadedTotal());
    }

    private static void deliveredTotal() {
        says(40, "Returns how many pillows have been delivered so far.", "Returns the number of pillows.");
        answers("none", 0, full(), b -> b.deliveredTotal());
        answers("one", 1, full().then(b -> b.unload(0)), b -> b.deliveredTotal());
        answers("a refused unload", 1,
                stack(0, 1).then(b -> b.unload(0)).then(b -> outcome(() -> b.unload(0))), b -> b.deliveredTotal());
        answers("a shift", 0, full().then(b -> outcome(() -> b.shift(0, 1))), b -> b.deliveredTotal());
        answers("undo", 0, full().then(b -> b.unload(0)).then(b -> b.undo()), b -> b.deliveredTotal());
        answers("a load", 1, full().then(b -> b.unload(0)).then(b -> b.load(0, 1, 0)), b -> b.deliveredTotal());
    }

    private static void deliveredWeight() {
        says(41, "Returns the weight of all pillows that have been delivered so far.", "Returns the weight.");
        Calls weights = b -> {
            for (int weight : new int[] {1, 20, 7}) {
                b.load(3, weight, 0);
            }
        };
        answers("none", 0, weights, b -> b.deliveredWeight());
        Calls one = weights.then(b -> b.unload(3));
        answers("one", 7, one, b -> b.deliveredWeight());
        answers("two", 27, one.then(b -> b.unload(3)), b -> b.deliveredWeight());
        answers("three", 28, one.then(b -> b.unload(3)).then(b -> b.unload(3)), b -> b.deliveredWeight());
        answers("undo", 7, one.then(b -> b.unload(3)).then(b -> b.undo()), b -> b.deliveredWeight());
        answers("restore", 0, weights.then(b -> b.save()).then(b -> b.unload(3)).then(b -> b.restore()),
                b -> b.deliveredWeight());
    }

    private static Calls drills(int... pushes) {
        return b -> {
            for (int push : pushes) {
                outcome(() -> b.drill(push));
            }
        };
    }

    private static void drillTotal() {
        says(42, "Returns how many drills have been carried out so far.", "Returns the number of drills.");
        answers("none", 0, EMPTY, b -> b.drillTotal());
        answers("one", 1, drills(0), b -> b.drillTotal());
        answers("capsized or not", 4, drills(60, 61, -60, -61), b -> b.drillTotal());
        answers("the last pushes", 2, drills(99, -99), b -> b.drillTotal());
        answers("refused ones", 0, drills(100, -100), b -> b.drillTotal());
        answers("undo", 1, drills(0, 99).then(b -> b.undo()), b -> b.drillTotal());
    }

    private static void capsizedTotal() {
        says(43, "Returns in how many drills the barge has capsized so far.", "Returns the number of drills.");
        answers("none", 0, EMPTY, b -> b.capsizedTotal());
        answers("not at the limit", 0, drills(60, -60, 0), b -> b.capsizedTotal());
        answers("beyond the limit", 2, drills(60, 61, -60, -61), b -> b.capsizedTotal());
        answers("the last pushes", 2, drills(99, -99), b -> b.capsizedTotal());
        answers("refused ones", 0, drills(100, -100), b -> b.capsizedTotal());
        answers("a later limit changes nothing", 0, drills(60, 60).then(limit(10)), b -> b.capsizedTotal());
        answers("undo", 1, drills(-99, 99).then(b -> b.undo()), b -> b.capsizedTotal());
    }

    private static void meanAge() {
        says(44, "Returns the mean age of the pillows on the barge: the sum of the ages", "Returns the mean age.");
        answers("age 0", 0.0, stack(3, 1), b -> b.meanAge());
        answers("age 20", 20.0, stack(3, 5).then(b -> b.sail(20)), b -> b.meanAge());
        Calls two = stack(3, 1).then(b -> b.sail(3)).then(stack(3, 1));
        answers("3 and 0", 1.5, two, b -> b.meanAge());
        answers("3, 0 and 0", 1.0, two.then(stack(3, 1)), b -> b.meanAge());
        answers("4, 1 and 0", 5.0 / 3.0, two.then(b -> b.sail(1)).then(stack(3, 1)), b -> b.meanAge());
        answers("4, 1, 0, 0, 0, 0 and 0", 5.0 / 7.0,
                two.then(b -> b.sail(1)).then(stack(2, 5)), b -> b.meanAge());
        answers("a full barge", 1.0, full().then(b -> b.sail(1)), b -> b.meanAge());
        for (int bay = 0; bay <= 6; bay++) {
            answers("one pillow in bay " + bay, 9.0, stack(bay, 1).then(b -> b.sail(9)), b -> b.meanAge());
        }
        answers("without a delivered one", 0.0,
                stack(4, 1).then(b -> b.sail(5)).then(stack(3, 2)).then(b -> b.unload(4)), b -> b.meanAge());
        says(44, "Throws `ArithmeticException` if there are no pillows on the barge");
        refusesArithmetic("none yet", EMPTY, b -> b.meanAge());
        refusesArithmetic("none is left", stack(3, 1).then(b -> b.unload(3)), b -> b.meanAge());
    }

    private static void capsizedShare() {
        says(45, "Returns the quotient of capsizedTotal and drillTotal, both converted to float.", "Returns the quotient.");
        answers("none of one", 0.0f, drills(60), b -> b.capsizedShare());
        answers("one of one", 1.0f, drills(61), b -> b.capsizedShare());
        answers("one of two", 0.5f, drills(61, 60), b -> b.capsizedShare());
        answers("one of three", 1.0f / 3.0f, drills(61, 60, 0), b -> b.capsizedShare());
        answers("two of three", 2.0f / 3.0f, drills(61, -61, 0), b -> b.capsizedShare());
        answers("refused ones do not count", 1.0f, drills(100, -100, 99), b -> b.capsizedShare());
        says(45, "Throws `ArithmeticException` if there has been no drill");
        refusesArithmetic("none yet", EMPTY, b -> b.capsizedShare());
        refusesArithmetic("a refused one", drills(100), b -> b.capsizedShare());
        refusesArithmetic("an undone one", drills(99).then(b -> b.undo()), b -> b.capsizedShare());
        refusesArithmetic("one that restore took back",
                FORGET.then(drills(99)).then(b -> b.restore()), b -> b.capsizedShare());
    }

    private static void isConsistent() {
        says(46, "Checks the state: both ways to compute the moment agree", "Returns true if all of this holds.");
        for (Calls calls : new Calls[] {EMPTY, BUSY, full(), stack(0, 5), drills(99)}) {
            answers("a state", true, calls, b -> b.isConsistent());
            answers("after undo", true, calls.then(b -> outcome(() -> b.undo())), b -> b.isConsistent());
            answers("after restore", true, calls.then(b -> outcome(() -> b.restore())), b -> b.isConsistent());
        }
        for (int number = 10; number <= 99; number++) {
            int limit = number;
            answers("at the limit", true, tilted(limit, limit), b -> b.isConsistent());
            answers("at the limit", true, tilted(-limit, limit), b -> b.isConsistent());
        }
        Calls inTheWay = b -> {
            for (int pillow = 0; pillow < 35; pillow++) {
                b.load(pillow % 7, 1, pillow % 5);
            }
        };
        for (int port = 0; port < 5; port++) {
            answers("pillows in the way", true, TermsSentences.at(port, true).then(inTheWay), b -> b.isConsistent());
            answers("pillows in the way", true, TermsSentences.at(port, false).then(inTheWay), b -> b.isConsistent());
        }
        answers("delivered ones", true, full().then(b -> b.unload(2)).then(b -> b.unload(4)), b -> b.isConsistent());
    }

    /** "An object is used for at most 512 calls after it has been made". */
    private static void longestUse() {
        PillowBarge b = new PillowBarge();
        for (int pillow = 0; pillow < 255; pillow++) {
            b.load(3, 20, 0);
            b.unload(3);
        }
        holds("call 511", b.load(3, 20, 0), 255);
        holds("call 512", b.deliveredWeight(), 5100);
        PillowBarge sailed = made(c -> c.load(3, 1, 1));
        for (int voyage = 0; voyage < 510; voyage++) {
            sailed.sail(20);
        }
        holds("call 512", sailed.ageOf(0), 10200);
        PillowBarge drilled = new PillowBarge();
        for (int drill = 0; drill < 511; drill++) {
            drilled.drill(99);
        }
        holds("call 512", drilled.capsizedTotal(), 511);
        PillowBarge undone = new PillowBarge();
        for (int change = 0; change < 511; change++) {
            undone.turn();
        }
        holds("call 512", undone.undo(), 7);
    }
}
