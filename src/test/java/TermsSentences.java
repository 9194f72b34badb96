/** The sentences of "Terms" about bays, balance, ports, pillows in the way and drills. */
final class TermsSentences extends Sentences {
    private static final int[] SIDES = {-1, 1};

    static void test() {
        baysAndPillows();
        pillowNumbers();
        onlyTheTop();
        moment();
        limitRange();
        limitForLoad();
        limitForUnload();
        limitForShift();
        listAngle();
        ports();
        oneLeg();
        legsToAPort();
        inTheWay();
        notInTheWay();
        drills();
    }

    private static void baysAndPillows() {
        terms("The barge has 7 bays with the indices 0 to 6.");
        for (int index = 0; index <= 6; index++) {
            int bay = index;
            answers("load in bay " + bay, 0, EMPTY, b -> b.load(bay, 1, 0));
            answers("the other bays", 1, stack(bay, 1), b -> b.pillowCount());
            answers("bayOf", bay, stack(bay, 1), b -> b.bayOf(0));
        }
        refusesIndex("bay -1", EMPTY, b -> b.load(-1, 1, 0));
        refusesIndex("bay 7", EMPTY, b -> b.load(7, 1, 0));

        terms("The lever arm of a bay is its index minus 3");
        for (int bay = 0; bay <= 6; bay++) {
            answers("moment of bay " + bay, bay - 3, stack(bay, 1), b -> b.moment());
            answers("momentByBays of bay " + bay, bay - 3, stack(bay, 1), b -> b.momentByBays());
        }

        terms("Each bay holds a stack of at most 5 pillows; the positions");
        for (int bay = 0; bay <= 6; bay++) {
            fillStack(bay);
        }

        terms("A pillow has a weight from 1 to 20 kilograms");
        for (int number = 1; number <= 20; number++) {
            int weight = number;
            Calls loaded = b -> b.load(3, weight, weight % 5);
            answers("weight " + weight, weight, loaded, b -> b.weightOf(0));
            answers("port " + weight % 5, weight % 5, loaded, b -> b.destinationOf(0));
            answers("day of loading", 0, loaded, b -> b.ageOf(0));
            answers("day after", weight, loaded.then(b -> b.sail(weight)), b -> b.ageOf(0));
        }
        refusesArgument("weight 0", EMPTY, b -> b.load(3, 0, 0));
        refusesArgument("weight 21", EMPTY, b -> b.load(3, 21, 0));
        refusesArgument("port -1", EMPTY, b -> b.load(3, 1, -1));
        refusesArgument("port 5", EMPTY, b -> b.load(3, 1, 5));
    }

    private static void fillStack(int bay) {
        PillowBarge b = new PillowBarge();
        for (int pillow = 0; pillow < 5; pillow++) {
            holds("height before pillow " + pillow, b.stackHeight(bay), pillow);
            holds("pillow " + pillow, b.load(bay, 1, 0), pillow);
            holds("positionOf " + pillow, b.positionOf(pillow), pillow);
            holds("the bottom stays", b.pillowAt(bay, 0), 0);
            holds("the new one on top", b.pillowAt(bay, pillow), pillow);
        }
        refusesState("a sixth pillow in bay " + bay, stack(bay, 5), c -> c.load(bay, 1, 0));
    }

    private static void pillowNumbers() {
        terms("Pillows are numbered 0, 1 and so on");
        PillowBarge b = new PillowBarge();
        holds("first", b.load(5, 1, 0), 0);
        holds("second", b.load(1, 1, 0), 1);
        holds("third", b.load(1, 1, 0), 2);
        b.shift(1, 5);
        holds("unload", b.unload(5), 2);
        holds("not again the latest", b.load(5, 1, 0), 3);
        b.unload(5);
        b.unload(5);
        b.unload(1);
        holds("not again on the empty barge", b.load(0, 1, 0), 4);
        holds("a refused load spends none", outcome(() -> b.load(0, 21, 0)), "throws.IllegalArgumentException");
        holds("next", b.load(0, 1, 0), 5);
    }

    private static void onlyTheTop() {
        terms("Only the top pillow of a stack can be unloaded or moved.");
        Calls covered = b -> {
            b.load(4, 2, 0);
            b.load(4, 3, 1);
        };
        refusesState("unload of the lower one", covered, b -> b.unload(4));
        answers("unload of the upper one", 1, covered.then(b -> b.sail(1)), b -> b.unload(4));
        answers("shift of the upper one", 1, covered, b -> b.shift(4, 2));
        answers("then the lower one", 0, covered.then(b -> b.shift(4, 2)), b -> b.unload(4));
    }

    private static void moment() {
        terms("The moment is the sum over all pillows of the weight times the lever arm of the bay.");
        answers("no pillow", 0, EMPTY, b -> b.moment());
        Calls several = b -> {
            b.load(6, 20, 0);
            b.load(1, 20, 0);
            b.load(1, 3, 0);
            b.load(0, 7, 0);
            b.load(3, 20, 0);
            b.load(4, 1, 0);
        };
        answers("60 -40 -6 -21 +0 +1", -6, several, b -> b.moment());
        answers("the least", -99, tilted(-99, 99), b -> b.moment());
        answers("the greatest", 99, tilted(99, 99), b -> b.moment());
    }

    private static void limitRange() {
        terms("The limit is a number from 10 to 99, initially 60.");
        answers("initially", 60, EMPTY, b -> b.limit());
        answers("the initial one holds", 0, EMPTY, b -> b.load(6, 20, 0));
        refusesBalance("the initial one holds", tilt(60), b -> b.load(4, 1, 0));
        refusesBalance("the initial one holds", tilt(-60), b -> b.load(2, 1, 0));
        for (int number = 10; number <= 99; number++) {
            int limit = number;
            answers("setLimit " + limit, 60, EMPTY, b -> b.setLimit(limit));
            answers("limit " + limit, limit, limit(limit), b -> b.limit());
        }
        refusesArgument("limit 9", EMPTY, b -> b.setLimit(9));
        refusesArgument("limit 100", EMPTY, b -> b.setLimit(100));
    }

    private static void limitForLoad() {
        terms("No pillow can be loaded, unloaded or moved if the absolute value of the moment");
        for (int number = 10; number <= 99; number++) {
            int limit = number;
            for (int side : SIDES) {
                Calls below = tilted(side * (limit - 1), limit);
                answers("load to the limit " + limit, side * limit,
                        below.then(b -> b.load(3 + side, 1, 0)), b -> b.moment());
                refusesBalance("load beyond the limit " + limit, below, b -> b.load(3 + side, 2, 0));
                answers("load in the middle", side * (limit - 1),
                        below.then(b -> b.load(3, 20, 0)), b -> b.moment());
            }
        }
        for (int side : SIDES) {
            answers("load from one side to the other", -side * 30,
                    tilted(side * 30, 30).then(b -> b.load(3 - 3 * side, 20, 0)), b -> b.moment());
            refusesBalance("load from one side beyond the other", tilted(side * 29, 30),
                    b -> b.load(3 - 3 * side, 20, 0));
        }
    }

    /** After the pillow of weight 5 is unloaded, the moment is this one. */
    private static Calls counterweight(int side, int moment, int limit) {
        return b -> {
            b.setLimit(99);
            b.load(3 - side, 5, 0);
            tilt(moment).accept(b);
            b.setLimit(limit);
        };
    }

    private static void limitForUnload() {
        for (int limit = 10; limit <= 99; limit++) {
            for (int side : SIDES) {
                answers("unload to the limit " + limit, side * limit,
                        counterweight(side, side * limit, limit).then(b -> b.unload(3 - side)), b -> b.moment());
                refusesBalance("unload beyond the limit " + limit,
                        counterweight(side, side * (limit + 1), limit), b -> b.unload(3 - side));
            }
        }
    }

    private static void limitForShift() {
        for (int limit = 10; limit <= 99; limit++) {
            for (int side : SIDES) {
                Calls below = tilted(side * (limit - 1), limit);
                answers("shift to the limit " + limit, side * limit,
                        below.then(b -> b.load(3, 1, 0)).then(b -> b.shift(3, 3 + side)), b -> b.moment());
                refusesBalance("shift beyond the limit " + limit,
                        below.then(b -> b.load(3, 2, 0)), b -> b.shift(3, 3 + side));
            }
        }
        for (int side : SIDES) {
            Calls outside = b -> {
                b.setLimit(33);
                b.load(3 + 3 * side, 11, 0);
            };
            answers("shift from one side to the other", 0, outside, b -> b.shift(3 + 3 * side, 3 - 3 * side));
            refusesBalance("shift from one side beyond the other",
                    outside.then(b -> b.load(3 - side, 1, 0)), b -> b.shift(3 + 3 * side, 3 - 3 * side));
        }
    }

    private static void listAngle() {
        terms("The list angle is 45.0 * moment / (weight + 40) in float arithmetic");
        answers("no pillow", 0.0f, EMPTY, b -> b.listAngle());
        answers("moment 0", 0.0f, full(), b -> b.listAngle());
        answers("one kilogram, -3", -135.0f / 41.0f, stack(0, 1), b -> b.listAngle());
        answers("33 kilograms, 99", 4455.0f / 73.0f, tilted(99, 99), b -> b.listAngle());
        answers("33 kilograms, -99", -4455.0f / 73.0f, tilted(-99, 99), b -> b.listAngle());
        answers("weight in the middle counts", 45.0f / 61.0f,
                stack(4, 1).then(b -> b.load(3, 20, 0)), b -> b.listAngle());
        // 45 * (24 / 52) and 24 * (45 / 52) round to 20.769232f.
        answers("from left to right", 20.76923f, b -> b.load(5, 12, 0), b -> b.listAngle());
    }

    private static void ports() {
        terms("There are 5 ports with the indices 0 to 4.");
        for (int index = 0; index <= 4; index++) {
            int port = index;
            answers("load for port " + port, 0, EMPTY, b -> b.load(3, 1, port));
            answers("weightFor port " + port, 0, EMPTY, b -> b.weightFor(port));
            answers("legsTo port " + port, port, EMPTY, b -> b.legsTo(port));
        }
        for (int index : new int[] {-1, 5}) {
            refusesArgument("load for port " + index, EMPTY, b -> b.load(3, 1, index));
            refusesIndex("weightFor port " + index, EMPTY, b -> b.weightFor(index));
            refusesIndex("legsTo port " + index, EMPTY, b -> b.legsTo(index));
        }
        terms("The barge is in port 0 on day 0.");
        answers("port", 0, EMPTY, b -> b.port());
        answers("day", 0, EMPTY, b -> b.day());
        answers("isAscending", true, EMPTY, b -> b.isAscending());
    }

    /** A barge in this port, with this rotation, on a day from 1 to 5. */
    static Calls at(int port, boolean ascending) {
        Calls there = b -> b.sail(port == 0 ? 5 : port);
        return ascending ? there : there.then(b -> b.turn());
    }

    private static void oneLeg() {
        terms("When it sails for one leg, the day increases by 1, and the port becomes the next one");
        int[] ascending = {1, 2, 3, 4, 0};
        int[] descending = {4, 0, 1, 2, 3};
        for (int port = 0; port < 5; port++) {
            int day = port == 0 ? 5 : port;
            answers("ascending from " + port, ascending[port], at(port, true), b -> b.sail(1));
            answers("descending from " + port, descending[port], at(port, false), b -> b.sail(1));
            answers("the day from " + port, day + 1, at(port, true).then(b -> b.sail(1)), b -> b.day());
            answers("the day from " + port, day + 1, at(port, false).then(b -> b.sail(1)), b -> b.day());
        }
    }

    private static void legsToAPort() {
        terms("The legs to a port are the number of legs after which the barge is in it for the first time");
        // Row: the present port. Column: the port to reach.
        int[][] ascending = {{0, 1, 2, 3, 4}, {4, 0, 1, 2, 3}, {3, 4, 0, 1, 2}, {2, 3, 4, 0, 1}, {1, 2, 3, 4, 0}};
        int[][] descending = {{0, 4, 3, 2, 1}, {1, 0, 4, 3, 2}, {2, 1, 0, 4, 3}, {3, 2, 1, 0, 4}, {4, 3, 2, 1, 0}};
        for (int from = 0; from < 5; from++) {
            for (int index = 0; index < 5; index++) {
                int to = index;
                answers("ascending from " + from + " to " + to, ascending[from][to],
                        at(from, true), b -> b.legsTo(to));
                answers("descending from " + from + " to " + to, descending[from][to],
                        at(from, false), b -> b.legsTo(to));
            }
        }
    }

    private static void inTheWay() {
        terms("A pillow is in the way of another one if both lie in the same stack");
        for (int lower = 0; lower < 5; lower++) {
            for (int upper = 0; upper < 5; upper++) {
                for (int port = 0; port < 5; port++) {
                    twoPillows(lower, upper, port, true);
                    twoPillows(lower, upper, port, false);
                }
            }
        }
    }

    private static void twoPillows(int lower, int upper, int port, boolean ascending) {
        Calls stacked = at(port, ascending).then(b -> b.load(5, 1, lower)).then(b -> b.load(5, 1, upper));
        int legsToLower = ascending ? (lower + 5 - port) % 5 : (port + 5 - lower) % 5;
        int legsToUpper = ascending ? (upper + 5 - port) % 5 : (port + 5 - upper) % 5;
        int due = legsToUpper > legsToLower ? 1 : 0;
        String detail = upper + " above " + lower + " in " + port + (ascending ? " ascending" : " descending");
        answers(detail, due, stacked, b -> b.pillowsInTheWay(0));
        answers(detail + ", of the upper one", 0, stacked, b -> b.pillowsInTheWay(1));
        answers(detail + ", pairs", due, stacked, b -> b.pairsInTheWay());
        answers(detail + ", pairs by stacks", due, stacked, b -> b.pairsInTheWayByStacks());
    }

    private static void notInTheWay() {
        Calls beside = b -> {
            b.load(2, 1, 0);
            b.load(4, 1, 4);
        };
        answers("another stack", 0, beside, b -> b.pillowsInTheWay(0));
        answers("another stack", 0, beside, b -> b.pairsInTheWay());
        answers("another stack", 0, beside, b -> b.pairsInTheWayByStacks());
        answers("the same stack", 1, beside.then(b -> b.shift(4, 2)), b -> b.pillowsInTheWay(0));
        answers("the other order", 0, beside.then(b -> b.shift(2, 4)), b -> b.pairsInTheWay());
    }

    private static void drills() {
        terms("A drill has a push from -99 to 99.");
        answers("push -99", true, EMPTY, b -> b.drill(-99));
        answers("push 99", true, EMPTY, b -> b.drill(99));
        refusesArgument("push -100", EMPTY, b -> b.drill(-100));
        refusesArgument("push 100", EMPTY, b -> b.drill(100));

        terms("The barge capsizes in the drill if the absolute value of the moment plus the push is greater");
        for (int moment : new int[] {0, 1, -1, 39, -40, 60, -60}) {
            everyPush(moment, 60);
        }
        everyPush(0, 10);
        everyPush(10, 10);
        everyPush(-10, 10);
        everyPush(0, 99);
        everyPush(99, 99);
        everyPush(-99, 99);

        terms("Drills are counted and change nothing else.");
        Calls drilled = BUSY.then(b -> b.drill(99)).then(b -> b.drill(0));
        answers("counted", 4, drilled, b -> b.drillTotal());
        answers("counted", 2, drilled, b -> b.capsizedTotal());
        holds("the state", Probe.besidesDrills(drilled), Probe.besidesDrills(BUSY));
        holds("the snapshot", Probe.snapshot(drilled), Probe.snapshot(BUSY));
        answers("the script buffer", 12, drilled, b -> b.type('x'));
        answers("the output text", '0', drilled, b -> b.outputAt(0));
    }

    private static void everyPush(int moment, int limit) {
        PillowBarge b = made(tilted(moment, limit));
        int capsized = 0;
        for (int push = -99; push <= 99; push++) {
            boolean due = moment + push > limit || moment + push < -limit;
            holds("push " + push + " at " + moment + " of " + limit, b.drill(push), due);
            capsized += due ? 1 : 0;
        }
        holds("capsizedTotal", b.capsizedTotal(), capsized);
        holds("drillTotal", b.drillTotal(), 199);
    }
}
