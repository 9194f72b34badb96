/** The sentences of promises 9 to 38: what can be asked about pillows, balance and ports. */
final class AskSentences extends Sentences {
    private static final int LEAST = Integer.MIN_VALUE;
    private static final int GREATEST = Integer.MAX_VALUE;
    private static final int[] NO_BAY = {-1, 7, LEAST, GREATEST};
    private static final int[] NO_PORT = {-1, 5, LEAST, GREATEST};

    static void test() {
        pillowCount();
        stackHeight();
        pillowAt();
        onePillow();
        noPillow();
        ageOf();
        moments();
        totalWeight();
        weightFor();
        limitAndAngle();
        greatestPush();
        levelingBay();
        levelingBayLeavesOut();
        levelingBayTies();
        voyage();
        legsTo();
        portAfter();
        pillowsInTheWay();
        pairs();
        unloadableCount();
        oldestIn();
        heaviestPort();
        possibleShifts();
        pillowByTurn();
        bayByWeight();
    }

    private static void pillowCount() {
        says(9, "Returns the number of pillows on the barge.", "Returns the number of pillows.");
        answers("none", 0, EMPTY, b -> b.pillowCount());
        answers("one", 1, stack(0, 1), b -> b.pillowCount());
        answers("all", 35, full(), b -> b.pillowCount());
        answers("after an unload", 34, full().then(b -> b.unload(3)), b -> b.pillowCount());
        answers("after the last unload", 0, stack(6, 1).then(b -> b.unload(6)), b -> b.pillowCount());
        answers("after a shift", 2, stack(6, 2).then(b -> b.shift(6, 5)), b -> b.pillowCount());
    }

    private static void stackHeight() {
        says(10, "Returns the number of pillows in a stack.", "Returns the number of pillows.");
        for (int number = 0; number <= 6; number++) {
            int bay = number;
            for (int height = 0; height <= 5; height++) {
                answers("height of bay " + bay, height, stack(bay, height), b -> b.stackHeight(bay));
                answers("the next bay", 0, stack(bay, height), b -> b.stackHeight((bay + 1) % 7));
            }
        }
        says(10, "Throws `IndexOutOfBoundsException` if there is no such bay");
        for (int bay : NO_BAY) {
            refusesIndex("bay " + bay, EMPTY, b -> b.stackHeight(bay));
            refusesIndex("bay " + bay, full(), b -> b.stackHeight(bay));
        }
    }

    private static void pillowAt() {
        says(11, "Returns a pillow of a stack.", "Returns the number of the pillow.");
        for (int number = 0; number <= 6; number++) {
            int bay = number;
            for (int place = 0; place < 5; place++) {
                int position = place;
                answers("of a full barge", bay + 7 * position, full(), b -> b.pillowAt(bay, position));
            }
        }
        says(11, "Throws `IndexOutOfBoundsException` if there is no such bay");
        for (int bay : NO_BAY) {
            refusesIndex("bay " + bay, EMPTY, b -> b.pillowAt(bay, 0));
            refusesIndex("bay " + bay, full(), b -> b.pillowAt(bay, 4));
        }
        says(11, "Throws `NoSuchElementException` if there is no such position");
        for (int number = 0; number <= 5; number++) {
            int height = number;
            for (int bay : new int[] {0, 3, 6}) {
                refusesElement("position -1", stack(bay, height), b -> b.pillowAt(bay, -1));
                refusesElement("position " + height, stack(bay, height), b -> b.pillowAt(bay, height));
                refusesElement("position 5", stack(bay, height), b -> b.pillowAt(bay, 5));
            }
        }
        for (int bay : new int[] {0, 3, 6}) {
            refusesElement("position -1 of a full barge", full(), b -> b.pillowAt(bay, -1));
            refusesElement("position 5 of a full barge", full(), b -> b.pillowAt(bay, 5));
            refusesElement("the least position", full(), b -> b.pillowAt(bay, LEAST));
            refusesElement("the greatest position", full(), b -> b.pillowAt(bay, GREATEST));
        }
        refusesElement("a position that was left", stack(3, 2).then(b -> b.unload(3)), b -> b.pillowAt(3, 1));
    }

    private static void onePillow() {
        Calls three = b -> {
            b.load(6, 20, 4);
            b.load(0, 1, 0);
            b.load(0, 13, 3);
        };
        says(12, "Returns the weight of a pillow.", "Returns the weight.");
        answers("first", 20, three, b -> b.weightOf(0));
        answers("second", 1, three, b -> b.weightOf(1));
        answers("third", 13, three, b -> b.weightOf(2));
        says(13, "Returns the destination of a pillow.", "Returns the port.");
        answers("first", 4, three, b -> b.destinationOf(0));
        answers("second", 0, three, b -> b.destinationOf(1));
        answers("third", 3, three, b -> b.destinationOf(2));
        says(14, "Returns the bay of a pillow.", "Returns the index of the bay.");
        answers("first", 6, three, b -> b.bayOf(0));
        answers("second", 0, three, b -> b.bayOf(1));
        answers("after a shift", 1, three.then(b -> b.shift(0, 1)), b -> b.bayOf(2));
        says(15, "Returns the position of a pillow in its stack.", "Returns the position, 0 for the bottom.");
        answers("first", 0, three, b -> b.positionOf(0));
        answers("third", 1, three, b -> b.positionOf(2));
        answers("after a shift", 0, three.then(b -> b.shift(0, 1)), b -> b.positionOf(2));
        for (int number = 0; number < 35; number++) {
            int pillow = number;
            answers("bayOf a full barge", pillow % 7, full(), b -> b.bayOf(pillow));
            answers("positionOf a full barge", pillow / 7, full(), b -> b.positionOf(pillow));
        }
    }

    private static void noPillow() {
        Calls gone = stack(3, 3).then(b -> b.unload(3));
        noPillow(12, gone, PillowBarge::weightOf);
        noPillow(13, gone, PillowBarge::destinationOf);
        noPillow(14, gone, PillowBarge::bayOf);
        noPillow(15, gone, PillowBarge::positionOf);
        noPillow(16, gone, PillowBarge::ageOf);
        noPillow(30, gone, PillowBarge::pillowsInTheWay);
    }

    private interface AskPillow {
        int of(PillowBarge b, int pillow);
    }

    /** Of the pillows 0 to 2, the last has been unloaded. */
    private static void noPillow(int promise, Calls gone, AskPillow ask) {
        says(promise, "Throws `NoSuchElementException` if there is no such pillow on the barge");
        refusesElement("no pillow yet", EMPTY, b -> ask.of(b, 0));
        for (int pillow : new int[] {-1, 2, 3, LEAST, GREATEST}) {
            refusesElement("pillow " + pillow, gone, b -> ask.of(b, pillow));
        }
        for (int pillow : new int[] {-1, 35, LEAST, GREATEST}) {
            refusesElement("pillow " + pillow + " of a full barge", full(), b -> ask.of(b, pillow));
        }
        holds("the first", outcome(() -> ask.of(made(gone), 0)) instanceof Integer, true);
        holds("the last", outcome(() -> ask.of(made(gone), 1)) instanceof Integer, true);
        holds("the last of a full barge", outcome(() -> ask.of(made(full()), 34)) instanceof Integer, true);
        refusesElement("a pillow whose load is undone", stack(3, 1).then(b -> b.undo()), b -> ask.of(b, 0));
        holds("a pillow whose unload is undone",
                outcome(() -> ask.of(made(gone.then(b -> b.undo())), 2)) instanceof Integer, true);
    }

    private static void ageOf() {
        says(16, "Returns the age of a pillow.", "Returns the number of days since it was loaded.");
        Calls sailed = b -> {
            b.sail(5);
            b.load(3, 1, 0);
            b.load(3, 1, 0);
        };
        answers("the same day", 0, sailed, b -> b.ageOf(0));
        answers("the next day", 1, sailed.then(b -> b.sail(1)), b -> b.ageOf(0));
        answers("after a turn", 21, sailed.then(b -> b.sail(1)).then(b -> b.turn()).then(b -> b.sail(20)),
                b -> b.ageOf(1));
        answers("after a shift", 3, sailed.then(b -> b.sail(3)).then(b -> b.shift(3, 4)), b -> b.ageOf(1));
        answers("after undo", 0, sailed.then(b -> b.sail(3)).then(b -> b.undo()), b -> b.ageOf(1));
    }

    private static void moments() {
        Calls several = b -> {
            b.load(0, 2, 0);
            b.load(1, 3, 0);
            b.load(2, 5, 0);
            b.load(3, 20, 0);
            b.load(4, 7, 0);
            b.load(5, 11, 0);
            b.load(6, 4, 0);
            b.load(6, 1, 0);
        };
        says(17, "Returns the moment, computed pillow by pillow.", "Returns the moment.");
        answers("none", 0, EMPTY, b -> b.moment());
        answers("-6 -6 -5 +0 +7 +22 +12 +3", 27, several, b -> b.moment());
        answers("of a full barge", 0, full(), b -> b.moment());
        answers("the least", -99, tilted(-99, 99), b -> b.moment());
        answers("the greatest", 99, tilted(99, 99), b -> b.moment());
        says(18, "Returns the same number as moment, computed from the weights of the bays.", "Returns the moment.");
        answers("none", 0, EMPTY, b -> b.momentByBays());
        answers("-6 -6 -5 +0 +7 +22 +15", 27, several, b -> b.momentByBays());
        answers("of a full barge", 0, full(), b -> b.momentByBays());
        answers("the least", -99, tilted(-99, 99), b -> b.momentByBays());
        answers("the greatest", 99, tilted(99, 99), b -> b.momentByBays());
    }

    /** 35 pillows of weight 20 for port 4: inner and outer bays in turn, so that the moment stays small. */
    private static Calls heaviest() {
        int[] bays = {3, 2, 4, 1, 5, 0, 6};
        return b -> {
            for (int pillow = 0; pillow < 35; pillow++) {
                b.load(bays[pillow % 7], 20, 4);
            }
        };
    }

    private static void totalWeight() {
        says(19, "Returns the sum of the weights of all pillows.", "Returns the weight.");
        answers("none", 0, EMPTY, b -> b.totalWeight());
        answers("one", 1, stack(0, 1), b -> b.totalWeight());
        answers("all", 700, heaviest(), b -> b.totalWeight());
        answers("after an unload", 34, full().then(b -> b.unload(3)), b -> b.totalWeight());
        answers("none is left", 0, stack(2, 1).then(b -> b.unload(2)), b -> b.totalWeight());
    }

    private static void weightFor() {
        says(20, "Returns the sum of the weights of the pillows for a port.", "Returns the weight.");
        Calls several = b -> {
            b.load(0, 5, 1);
            b.load(3, 20, 1);
            b.load(3, 2, 4);
            b.load(4, 3, 0);
        };
        int[] weights = {3, 25, 0, 0, 2};
        for (int index = 0; index <= 4; index++) {
            int port = index;
            answers("port " + port, weights[port], several, b -> b.weightFor(port));
            answers("none for port " + port, 0, EMPTY, b -> b.weightFor(port));
            answers("all for port 4", port == 4 ? 700 : 0, heaviest(), b -> b.weightFor(port));
        }
        answers("after an unload", 0, several.then(b -> b.unload(4)), b -> b.weightFor(0));
        says(20, "Throws `IndexOutOfBoundsException` if there is no such port");
        for (int port : NO_PORT) {
            refusesIndex("port " + port, EMPTY, b -> b.weightFor(port));
            refusesIndex("port " + port, full(), b -> b.weightFor(port));
        }
    }

    private static void limitAndAngle() {
        says(21, "Returns the limit.");
        answers("the first", 60, EMPTY, b -> b.limit());
        answers("the least", 10, limit(10), b -> b.limit());
        answers("the greatest", 99, limit(99), b -> b.limit());
        says(22, "Returns the list angle.");
        answers("no pillow", 0.0f, EMPTY, b -> b.listAngle());
        answers("-3 of 41", -3.2926829f, stack(0, 1), b -> b.listAngle());
        answers("20 of 50", 18.0f, b -> b.load(5, 10, 0), b -> b.listAngle());
        answers("0 of 740", 0.0f, heaviest(), b -> b.listAngle());
        answers("60 of 720", 45.0f * 60.0f / 720.0f, heaviest().then(b -> b.sail(4)).then(b -> b.unload(0)),
                b -> b.listAngle());
    }

    private static void greatestPush() {
        says(23, "Returns the greatest push with which a drill would not capsize the barge now.");
        answers("moment 0", 60, EMPTY, b -> b.greatestPush());
        answers("moment 60", 0, tilt(60), b -> b.greatestPush());
        answers("the least limit", 10, limit(10), b -> b.greatestPush());
        for (int moment = -99; moment <= 99; moment++) {
            answers("moment " + moment, 99 - moment, tilted(moment, 99), b -> b.greatestPush());
        }
        for (int number = 1; number <= 99; number++) {
            int moment = number;
            answers("that push", false, tilted(moment, 99), b -> b.drill(99 - moment));
            answers("one more", true, tilted(moment, 99), b -> b.drill(100 - moment));
        }
        says(23, "Returns the push, which can be greater than 99.");
        answers("99", 99, limit(99), b -> b.greatestPush());
        answers("100", 100, tilted(-1, 99), b -> b.greatestPush());
        answers("the greatest", 198, tilted(-99, 99), b -> b.greatestPush());
        answers("of another limit", 120, tilt(-60), b -> b.greatestPush());
        answers("the least", 0, tilted(99, 99), b -> b.greatestPush());
    }

    private static void levelingBay() {
        says(24, "Returns the bay in which a pillow could be loaded so that the absolute value", "Returns the index");
        // A pillow of weight 10 levels each of these moments in one bay alone.
        int[] bays = {6, 5, 4, 3, 2, 1, 0};
        for (int index = 0; index < 7; index++) {
            answers("moment " + 10 * (index - 3), bays[index], tilted(10 * (index - 3), 99), b -> b.levelingBay(10));
        }
        answers("the least weight", 6, tilt(-30), b -> b.levelingBay(1));
        answers("the greatest weight", 5, tilt(-40), b -> b.levelingBay(20));
        answers("beyond the middle", 5, tilt(-29), b -> b.levelingBay(12));
        answers("nothing is loaded", 1, tilt(-30).then(b -> b.levelingBay(1)), b -> b.pillowCount());
        says(24, "Throws `IllegalArgumentException` if weight is not between 1 and 20");
        for (int weight : new int[] {0, 21, -1, LEAST, GREATEST}) {
            refusesArgument("weight " + weight, EMPTY, b -> b.levelingBay(weight));
            refusesArgument("weight " + weight, BUSY, b -> b.levelingBay(weight));
        }
        answers("weight 1", 3, EMPTY, b -> b.levelingBay(1));
        answers("weight 20", 3, EMPTY, b -> b.levelingBay(20));
    }

    private static void levelingBayLeavesOut() {
        says(24, "Bays with 5 pillows and bays in which the limit would be exceeded are left out.");
        answers("four in the middle", 3, stack(3, 4), b -> b.levelingBay(1));
        answers("five in the middle", 2, stack(3, 5), b -> b.levelingBay(1));
        answers("the limit is reached", 2, stack(3, 5).then(limit(10)), b -> b.levelingBay(10));
        refusesElement("the limit would be exceeded", stack(3, 5).then(limit(10)), b -> b.levelingBay(11));
        answers("only one side is left", 2, stack(3, 5).then(stack(2, 1)).then(stack(4, 2)).then(limit(10)),
                b -> b.levelingBay(11));
        says(24, "Throws `NoSuchElementException` if there is no such bay");
        refusesElement("a full barge", full(), b -> b.levelingBay(1));
        refusesElement("a full barge", heaviest(), b -> b.levelingBay(20));
        for (int number = 0; number <= 6; number++) {
            int bay = number;
            answers("one place in bay " + bay, bay, full().then(b -> b.unload(bay)), b -> b.levelingBay(1));
        }
        Calls onePlace = heaviest().then(b -> b.sail(4)).then(b -> b.unload(6));
        answers("one place, to the limit", 6, onePlace, b -> b.levelingBay(20));
    }

    private static void levelingBayTies() {
        says(24, "Among several such bays, it is the one with the lower stack, and then the one with the lower");
        Calls tied = b -> {
            b.load(1, 5, 0);
            b.load(5, 5, 0);
        };
        answers("one above, one below: the lower index", 2, tied.then(stack(3, 5)), b -> b.levelingBay(3));
        answers("the lower stack in bay 4", 4, tied.then(stack(3, 5)).then(b -> b.load(2, 1, 0))
                .then(b -> b.load(4, 1, 0)).then(b -> b.load(2, 1, 0)).then(b -> b.load(6, 1, 0))
                .then(b -> b.load(1, 1, 0)), b -> b.levelingBay(3));
        answers("the same height", 2, tied.then(stack(3, 5)).then(b -> b.load(4, 1, 0)).then(b -> b.load(2, 1, 0)),
                b -> b.levelingBay(3));
        // From -30, weight 20 leads to -10 in bay 4 and to 10 in bay 5.
        answers("the lower index", 4, b -> b.load(0, 10, 0), b -> b.levelingBay(20));
        answers("the lower stack", 5, tiltBy(4), b -> b.levelingBay(20));
        answers("the lower stack", 4, tiltBy(5), b -> b.levelingBay(20));
    }

    /** The moment is -30, with one pillow in the bay. */
    private static Calls tiltBy(int bay) {
        return b -> {
            b.load(bay, 6, 0);
            b.load(bay == 4 ? 2 : 1, 6, 0);
            b.load(0, 10, 0);
        };
    }

    private static void voyage() {
        says(25, "Returns the present port.", "Returns the port.");
        says(26, "Returns the present day.", "Returns the number of legs that have been sailed.");
        says(27, "Returns whether the rotation is ascending.", "Returns true if it is ascending.");
        PillowBarge b = new PillowBarge();
        int[] legs = {1, 3, 1, 20, 19, 6};
        int[] ports = {1, 4, 0, 0, 4, 0};
        int day = 0;
        for (int voyage = 0; voyage < legs.length; voyage++) {
            b.sail(legs[voyage]);
            day += legs[voyage];
            holds("port", b.port(), ports[voyage]);
            holds("day", b.day(), day);
            holds("isAscending", b.isAscending(), true);
        }
        b.turn();
        holds("the port stays", b.port(), 0);
        holds("the day stays", b.day(), 50);
        holds("isAscending", b.isAscending(), false);
        b.sail(1);
        holds("port", b.port(), 4);
        holds("day", b.day(), 51);
        b.sail(4);
        holds("port", b.port(), 0);
        holds("day", b.day(), 55);
        b.turn();
        holds("isAscending", b.isAscending(), true);
    }

    private static void legsTo() {
        says(28, "Returns the legs to a port.", "Returns the number of legs, 0 to 4.");
        for (int port = 0; port < 5; port++) {
            for (int legs = 0; legs <= 4; legs++) {
                int ahead = legs;
                int to = (port + legs) % 5;
                int back = (port + 5 - legs) % 5;
                answers(legs + " ahead", ahead, TermsSentences.at(port, true), b -> b.legsTo(to));
                answers(legs + " back", ahead, TermsSentences.at(port, false), b -> b.legsTo(back));
            }
        }
        says(28, "Throws `IndexOutOfBoundsException` if there is no such port");
        for (int port : NO_PORT) {
            refusesIndex("port " + port, EMPTY, b -> b.legsTo(port));
            refusesIndex("port " + port, BUSY, b -> b.legsTo(port));
        }
    }

    private static void portAfter() {
        says(29, "Predicts the port after some legs with the present rotation.", "Returns the port.");
        for (int port = 0; port < 5; port++) {
            for (int number = 0; number <= 99; number++) {
                int legs = number;
                answers(legs + " ahead of " + port, (port + legs) % 5,
                        TermsSentences.at(port, true), b -> b.portAfter(legs));
                answers(legs + " back from " + port, (port + 100 - legs) % 5,
                        TermsSentences.at(port, false), b -> b.portAfter(legs));
            }
        }
        answers("the barge stays", 3, TermsSentences.at(3, true).then(b -> b.portAfter(99)), b -> b.port());
        says(29, "Throws `IllegalArgumentException` if legs is not between 0 and 99");
        for (int legs : new int[] {-1, 100, LEAST, GREATEST}) {
            refusesArgument("legs " + legs, EMPTY, b -> b.portAfter(legs));
            refusesArgument("legs " + legs, BUSY, b -> b.portAfter(legs));
        }
    }

    private static Calls stackFor(int... ports) {
        return b -> {
            for (int port : ports) {
                b.load(3, 1, port);
            }
        };
    }

    private static void pillowsInTheWay() {
        says(30, "Returns how many pillows are in the way of a pillow.", "Returns the number of pillows.");
        int[] inTheWay = {4, 3, 2, 1, 0};
        for (int number = 0; number < 5; number++) {
            int pillow = number;
            answers("most", inTheWay[pillow], stackFor(0, 1, 2, 3, 4), b -> b.pillowsInTheWay(pillow));
            answers("least", 0, stackFor(4, 3, 2, 1, 0), b -> b.pillowsInTheWay(pillow));
            answers("the same port", 0, stackFor(2, 2, 2, 2, 2), b -> b.pillowsInTheWay(pillow));
            answers("ascending", pillow == 0 ? 4 : 0, stackFor(0, 4, 3, 2, 1), b -> b.pillowsInTheWay(pillow));
            answers("descending", inTheWay[pillow], stackFor(0, 4, 3, 2, 1).then(b -> b.turn()),
                    b -> b.pillowsInTheWay(pillow));
        }
        answers("some", 1, stackFor(1, 3, 1, 0, 1), b -> b.pillowsInTheWay(0));
        answers("two", 2, stackFor(1, 3, 1, 4, 0), b -> b.pillowsInTheWay(0));
    }

    private static void pairs() {
        Calls most = b -> {
            for (int pillow = 0; pillow < 35; pillow++) {
                b.load(pillow % 7, 1, pillow / 7);
            }
        };
        says(31, "Returns the number of pairs of pillows of which one is in the way", "Returns the number of pairs.");
        answers("none", 0, EMPTY, b -> b.pairsInTheWay());
        answers("one pillow", 0, stack(3, 1), b -> b.pairsInTheWay());
        answers("the same port", 0, full(), b -> b.pairsInTheWay());
        answers("most", 70, most, b -> b.pairsInTheWay());
        answers("least", 7 * 4, most.then(b -> b.turn()), b -> b.pairsInTheWay());
        answers("in port 1", 7 * 6, most.then(b -> b.sail(1)), b -> b.pairsInTheWay());
        says(32, "Returns the same number as pairsInTheWay, computed stack by stack", "Returns the number of pairs.");
        answers("none", 0, EMPTY, b -> b.pairsInTheWayByStacks());
        answers("one pillow", 0, stack(3, 1), b -> b.pairsInTheWayByStacks());
        answers("the same port", 0, full(), b -> b.pairsInTheWayByStacks());
        answers("most", 70, most, b -> b.pairsInTheWayByStacks());
        answers("least", 7 * 4, most.then(b -> b.turn()), b -> b.pairsInTheWayByStacks());
        answers("in port 1", 7 * 6, most.then(b -> b.sail(1)), b -> b.pairsInTheWayByStacks());
    }

    private static void unloadableCount() {
        says(33, "Returns how many top pillows of stacks could be unloaded now, each one by itself.",
                "Returns the number of pillows for which unload would not throw an exception.");
        answers("none", 0, EMPTY, b -> b.unloadableCount());
        answers("all", 7, full(), b -> b.unloadableCount());
        answers("in another port", 0, full().then(b -> b.sail(1)), b -> b.unloadableCount());
        answers("in the port again", 7, full().then(b -> b.sail(5)), b -> b.unloadableCount());
        answers("a covered one does not count", 0, stackFor(0, 1), b -> b.unloadableCount());
        answers("its cover counts", 1, stackFor(0, 1).then(b -> b.sail(1)), b -> b.unloadableCount());
        Calls balanced = b -> {
            b.load(1, 5, 0);
            b.load(5, 5, 0);
        };
        answers("to the limit, each by itself", 2, balanced.then(limit(10)), b -> b.unloadableCount());
        answers("beyond the limit", 1, balanced.then(stack(4, 1)).then(limit(10)).then(b -> b.load(3, 1, 1))
                .then(b -> b.load(4, 1, 1)), b -> b.unloadableCount());
        answers("nothing is unloaded", 35, full().then(b -> b.unloadableCount()), b -> b.pillowCount());
    }

    private static void oldestIn() {
        says(34, "Returns the oldest pillow of a stack: the one with the greatest age", "Returns the number");
        Calls older = b -> {
            b.load(2, 1, 0);
            b.load(2, 1, 0);
            b.sail(1);
            b.load(4, 1, 0);
            b.load(4, 1, 0);
        };
        answers("of one age the lowest number", 0, older, b -> b.oldestIn(2));
        answers("the lowest number on top", 0, older.then(b -> b.shift(2, 3)).then(b -> b.shift(2, 3)),
                b -> b.oldestIn(3));
        answers("the greatest age on top", 1, older.then(b -> b.shift(2, 4)), b -> b.oldestIn(4));
        answers("the greatest age at the bottom", 1, older.then(b -> b.shift(2, 3)).then(b -> b.shift(4, 3)),
                b -> b.oldestIn(3));
        answers("one day is enough", 2, older.then(b -> b.sail(1)).then(b -> b.load(4, 1, 0)), b -> b.oldestIn(4));
        for (int number = 0; number <= 6; number++) {
            int bay = number;
            answers("of a full barge", bay, full(), b -> b.oldestIn(bay));
        }
        says(34, "Throws `IndexOutOfBoundsException` if there is no such bay");
        for (int bay : NO_BAY) {
            refusesIndex("bay " + bay, EMPTY, b -> b.oldestIn(bay));
            refusesIndex("bay " + bay, full(), b -> b.oldestIn(bay));
        }
        says(34, "Throws `NoSuchElementException` if the stack is empty");
        for (int number = 0; number <= 6; number++) {
            int bay = number;
            refusesElement("no pillow in bay " + bay, EMPTY, b -> b.oldestIn(bay));
            answers("one pillow in bay " + bay, 0, stack(bay, 1), b -> b.oldestIn(bay));
            refusesElement("none is left in bay " + bay, stack(bay, 1).then(b -> b.unload(bay)),
                    b -> b.oldestIn(bay));
        }
    }

    /** Pillows in the middle, one for each port whose weight is not 0. */
    private static Calls weights(int... weights) {
        return b -> {
            for (int port = 0; port < weights.length; port++) {
                if (weights[port] > 0) {
                    b.load(3, weights[port], port);
                }
            }
        };
    }

    private static void heaviestPort() {
        says(35, "Returns the port for which the pillows on the barge weigh most.", "Returns the port.");
        for (int heavy = 0; heavy < 5; heavy++) {
            int[] weights = {4, 4, 4, 4, 4};
            weights[heavy] = 5;
            for (int port = 0; port < 5; port++) {
                answers("one more for " + heavy, heavy,
                        TermsSentences.at(port, true).then(weights(weights)), b -> b.heaviestPort());
                answers("one more for " + heavy, heavy,
                        TermsSentences.at(port, false).then(weights(weights)), b -> b.heaviestPort());
            }
        }
        answers("two light ones", 2, b -> {
            b.load(3, 5, 1);
            b.load(3, 3, 2);
            b.load(3, 3, 2);
        }, b -> b.heaviestPort());
        says(35, "Among several such ports, it is the one with fewer legs.");
        for (int number = 0; number < 5; number++) {
            int port = number;
            answers("all the same in " + port, port, TermsSentences.at(port, true).then(weights(4, 4, 4, 4, 4)),
                    b -> b.heaviestPort());
            answers("1 and 3, ascending", port < 2 || port == 4 ? 1 : 3,
                    TermsSentences.at(port, true).then(weights(1, 6, 1, 6, 1)), b -> b.heaviestPort());
            answers("1 and 3, descending", port < 1 || port > 2 ? 3 : 1,
                    TermsSentences.at(port, false).then(weights(1, 6, 1, 6, 1)), b -> b.heaviestPort());
        }
        says(35, "Throws `NoSuchElementException` if there are no pillows on the barge");
        refusesElement("none yet", EMPTY, b -> b.heaviestPort());
        refusesElement("none is left", stack(3, 1).then(b -> b.unload(3)), b -> b.heaviestPort());
        answers("one", 4, weights(0, 0, 0, 0, 1), b -> b.heaviestPort());
    }

    private static void possibleShifts() {
        says(36, "Returns how many single moves of top pillows onto other stacks are possible now.",
                "Returns the number of pairs of bays for which shift would not throw an exception.");
        answers("none", 0, EMPTY, b -> b.possibleShifts());
        for (int bay = 0; bay <= 6; bay++) {
            answers("one pillow in bay " + bay, 6, stack(bay, 1), b -> b.possibleShifts());
            answers("five pillows in bay " + bay, 6, stack(bay, 5), b -> b.possibleShifts());
        }
        answers("two stacks", 12, stack(1, 4).then(stack(5, 4)), b -> b.possibleShifts());
        answers("to a full stack", 11, stack(1, 5).then(stack(5, 4)), b -> b.possibleShifts());
        answers("between full stacks", 10, stack(1, 5).then(stack(5, 5)), b -> b.possibleShifts());
        answers("a full barge", 0, full(), b -> b.possibleShifts());
        answers("one place", 6, full().then(b -> b.unload(2)), b -> b.possibleShifts());
        answers("all to the limit", 6, limit(30).then(b -> b.load(3, 10, 0)), b -> b.possibleShifts());
        answers("two beyond the limit", 4, b -> {
            b.load(3, 10, 0);
            b.setLimit(29);
        }, b -> b.possibleShifts());
        answers("four beyond the limit", 2, b -> {
            b.load(3, 10, 0);
            b.setLimit(19);
        }, b -> b.possibleShifts());
        answers("all beyond the limit", 0, b -> {
            b.load(3, 11, 0);
            b.setLimit(10);
        }, b -> b.possibleShifts());
        answers("nothing is moved", 4, stack(4, 1).then(b -> b.possibleShifts()), b -> b.bayOf(0));
    }

    private static void dueTurns(String detail, Calls before, int... pillows) {
        PillowBarge b = made(before);
        for (int rank = 0; rank < pillows.length; rank++) {
            holds(detail + ", rank " + rank, b.pillowByTurn(rank), pillows[rank]);
        }
        refusesElement(detail + ", the rank behind", before, c -> c.pillowByTurn(pillows.length));
    }

    private static void pillowByTurn() {
        says(37, "Returns the pillow at a rank when the pillows on the barge are sorted", "Returns the number");
        dueTurns("by legs", stackFor(4, 2, 0, 3, 1), 2, 4, 1, 3, 0);
        dueTurns("by legs, descending", stackFor(4, 2, 0, 3, 1).then(b -> b.turn()), 2, 0, 3, 1, 4);
        dueTurns("by legs in port 3", stackFor(4, 2, 0, 3, 1).then(b -> b.sail(3)), 3, 0, 2, 4, 1);
        dueTurns("by number", stackFor(1, 1, 1, 1, 1), 0, 1, 2, 3, 4);
        Calls aged = b -> {
            b.load(3, 1, 2);
            b.load(6, 1, 1);
            b.sail(1);
            b.load(0, 1, 2);
            b.load(3, 1, 1);
            b.sail(4);
            b.load(4, 1, 1);
            b.load(2, 1, 2);
        };
        dueTurns("by age", aged, 1, 3, 4, 0, 2, 5);
        dueTurns("the bays do not matter", aged.then(b -> b.shift(6, 4)).then(b -> b.shift(0, 5)), 1, 3, 4, 0, 2, 5);
        says(37, "Throws `NoSuchElementException` if there is no such rank");
        for (int rank : new int[] {-1, 0, 1, LEAST, GREATEST}) {
            refusesElement("rank " + rank + " of none", EMPTY, b -> b.pillowByTurn(rank));
        }
        for (int rank : new int[] {-1, 35, 36, LEAST, GREATEST}) {
            refusesElement("rank " + rank + " of 35", full(), b -> b.pillowByTurn(rank));
        }
        answers("rank 0 of 35", 0, full(), b -> b.pillowByTurn(0));
        answers("rank 34 of 35", 34, full(), b -> b.pillowByTurn(34));
        answers("rank 0 of 1", 0, stack(6, 1), b -> b.pillowByTurn(0));
        refusesElement("rank 1 of 1", stack(6, 1), b -> b.pillowByTurn(1));
    }

    private static void dueBays(String detail, Calls before, int... bays) {
        PillowBarge b = made(before);
        for (int rank = 0; rank < 7; rank++) {
            holds(detail + ", rank " + rank, b.bayByWeight(rank), bays[rank]);
        }
    }

    private static void bayByWeight() {
        says(38, "Returns the bay at a rank when all bays are sorted by the weight", "Returns the index of the bay.");
        dueBays("empty", EMPTY, 0, 1, 2, 3, 4, 5, 6);
        dueBays("full", full(), 0, 1, 2, 3, 4, 5, 6);
        dueBays("one kilogram", stack(6, 1), 6, 0, 1, 2, 3, 4, 5);
        Calls several = b -> {
            for (int bay = 0; bay < 7; bay++) {
                b.load(bay, bay + 1, 0);
            }
        };
        dueBays("all different", several, 6, 5, 4, 3, 2, 1, 0);
        dueBays("two the same", several.then(b -> b.load(2, 2, 0)), 6, 5, 2, 4, 3, 1, 0);
        dueBays("the sum of a stack", several.then(b -> b.load(0, 7, 0)), 0, 6, 5, 4, 3, 2, 1);
        says(38, "Throws `NoSuchElementException` if there is no such rank");
        for (int rank : new int[] {-1, 7, 8, LEAST, GREATEST}) {
            refusesElement("rank " + rank, EMPTY, b -> b.bayByWeight(rank));
            refusesElement("rank " + rank, full(), b -> b.bayByWeight(rank));
        }
    }
}
