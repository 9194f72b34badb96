/** The sentences of promises 1 to 8. What they refuse is asked of an empty object and of a busy one. */
final class ChangeSentences extends Sentences {
    private static final int LEAST = Integer.MIN_VALUE;
    private static final int GREATEST = Integer.MAX_VALUE;

    static void test() {
        newObject();
        load();
        loadRefused();
        unload();
        unloadRefused();
        unloadInEachPort();
        shift();
        shiftRefused();
        sail();
        turn();
        setLimit();
        drill();
    }

    private static void newObject() {
        says(1, "Creates an empty barge.");
        PillowBarge b = new PillowBarge();
        holds("pillowCount", b.pillowCount(), 0);
        holds("totalWeight", b.totalWeight(), 0);
        holds("moment", b.moment(), 0);
        holds("limit", b.limit(), 60);
        holds("port", b.port(), 0);
        holds("day", b.day(), 0);
        holds("isAscending", b.isAscending(), true);
        holds("loadedTotal", b.loadedTotal(), 0);
        holds("deliveredTotal", b.deliveredTotal(), 0);
        holds("deliveredWeight", b.deliveredWeight(), 0);
        holds("drillTotal", b.drillTotal(), 0);
        holds("capsizedTotal", b.capsizedTotal(), 0);
        holds("isConsistent", b.isConsistent(), true);
        for (int bay = 0; bay <= 6; bay++) {
            holds("stackHeight", b.stackHeight(bay), 0);
        }
        refusesIndex("outputAt", EMPTY, c -> c.outputAt(0));
        refusesElement("errorPosition", EMPTY, c -> c.errorPosition());
        refusesElement("failedCommand", EMPTY, c -> c.failedCommand());
        refusesElement("undo", EMPTY, c -> c.undo());
        refusesState("restore", EMPTY, c -> c.restore());
        answers("the first character", 1, EMPTY, c -> c.type(' '));
        answers("the first pillow", 0, EMPTY, c -> c.load(0, 1, 0));
        PillowBarge another = made(BUSY);
        holds("objects have nothing in common", another.pillowCount(), 5);
        holds("objects have nothing in common", b.pillowCount(), 0);
    }

    private static void load() {
        says(2, "Loads a pillow on top of a stack.", "Returns the number of the pillow.");
        for (int number = 0; number <= 6; number++) {
            int bay = number;
            for (int height = 0; height < 5; height++) {
                int position = height;
                Calls before = stack(bay, height);
                answers("load in bay " + bay + " on " + height, height, before, b -> b.load(bay, 1, 2));
                Calls loaded = before.then(b -> b.load(bay, 1, 2));
                answers("on top", position, loaded, b -> b.pillowAt(bay, position));
                answers("height", height + 1, loaded, b -> b.stackHeight(bay));
                answers("destination", 2, loaded, b -> b.destinationOf(position));
            }
        }
        answers("least weight", 1, b -> b.load(3, 1, 0), b -> b.weightOf(0));
        answers("greatest weight", 20, b -> b.load(3, 20, 0), b -> b.weightOf(0));
        answers("least port", 0, b -> b.load(3, 1, 0), b -> b.destinationOf(0));
        answers("greatest port", 4, b -> b.load(3, 1, 4), b -> b.destinationOf(0));
    }

    private static void loadRefused() {
        says(2, "Throws `IndexOutOfBoundsException` if there is no such bay");
        for (int bay : new int[] {-1, 7, LEAST, GREATEST}) {
            refusesIndex("bay " + bay, EMPTY, b -> b.load(bay, 1, 0));
            refusesIndex("bay " + bay, BUSY, b -> b.load(bay, 1, 0));
        }
        says(2, "Throws `IllegalArgumentException` if weight is not between 1 and 20, or destination");
        for (int weight : new int[] {0, 21, -1, LEAST, GREATEST}) {
            refusesArgument("weight " + weight, EMPTY, b -> b.load(3, weight, 0));
            refusesArgument("weight " + weight, BUSY, b -> b.load(3, weight, 0));
            refusesArgument("weight " + weight, BUSY, b -> b.load(6, weight, 0));
        }
        for (int port : new int[] {-1, 5, LEAST, GREATEST}) {
            refusesArgument("destination " + port, EMPTY, b -> b.load(3, 1, port));
            refusesArgument("destination " + port, BUSY, b -> b.load(3, 1, port));
        }
        says(2, "Throws `IllegalStateException` if the stack has 5 pillows");
        for (int number = 0; number <= 6; number++) {
            int bay = number;
            answers("the fifth pillow in bay " + bay, 4, stack(bay, 4), b -> b.load(bay, 1, 0));
            refusesState("the sixth pillow in bay " + bay, stack(bay, 5), b -> b.load(bay, 1, 0));
            refusesState("the 36th pillow in bay " + bay, full(), b -> b.load(bay, 1, 0));
        }
        answers("a place that is free again", 5, stack(4, 5).then(b -> b.unload(4)), b -> b.load(4, 1, 0));
        says(2, "Throws `UnsupportedOperationException` if the absolute value of the moment would be greater");
        answers("to the limit 60", 1, tilt(57), b -> b.load(6, 1, 0));
        answers("to the limit 60", 1, tilt(-57), b -> b.load(0, 1, 0));
        refusesBalance("to 61", tilted(58, 60), b -> b.load(6, 1, 0));
        refusesBalance("to -61", tilted(-58, 60), b -> b.load(0, 1, 0));
        answers("to the limit 10", 0, limit(10), b -> b.load(5, 5, 0));
        refusesBalance("to 12", limit(10), b -> b.load(5, 6, 0));
        refusesBalance("to -12", limit(10), b -> b.load(1, 6, 0));
    }

    private static void unload() {
        says(3, "Unloads the top pillow of a stack, which is delivered.", "Returns the number of the pillow.");
        for (int number = 0; number <= 6; number++) {
            int bay = number;
            for (int height = 1; height <= 5; height++) {
                int top = height - 1;
                Calls before = stack(bay, height);
                answers("unload of bay " + bay, top, before, b -> b.unload(bay));
                Calls unloaded = before.then(b -> b.unload(bay));
                answers("height", top, unloaded, b -> b.stackHeight(bay));
                answers("deliveredTotal", 1, unloaded, b -> b.deliveredTotal());
                answers("loadedTotal", height, unloaded, b -> b.loadedTotal());
                refusesElement("it is gone", unloaded, b -> b.weightOf(top));
            }
        }
        Calls two = b -> {
            b.load(3, 20, 0);
            b.load(3, 7, 0);
        };
        answers("deliveredWeight", 7, two.then(b -> b.unload(3)), b -> b.deliveredWeight());
        answers("deliveredWeight", 27, two.then(b -> b.unload(3)).then(b -> b.unload(3)), b -> b.deliveredWeight());
    }

    private static void unloadRefused() {
        says(3, "Throws `IndexOutOfBoundsException` if there is no such bay");
        for (int bay : new int[] {-1, 7, LEAST, GREATEST}) {
            refusesIndex("bay " + bay, EMPTY, b -> b.unload(bay));
            refusesIndex("bay " + bay, BUSY, b -> b.unload(bay));
            refusesIndex("bay " + bay, full(), b -> b.unload(bay));
        }
        says(3, "Throws `NoSuchElementException` if the stack is empty");
        for (int number = 0; number <= 6; number++) {
            int bay = number;
            refusesElement("no pillow in bay " + bay, EMPTY, b -> b.unload(bay));
            answers("the last pillow in bay " + bay, 0, stack(bay, 1), b -> b.unload(bay));
            refusesElement("none is left in bay " + bay, stack(bay, 1).then(b -> b.unload(bay)), b -> b.unload(bay));
            refusesElement("it was moved from bay " + bay,
                    stack(bay, 1).then(b -> b.shift(bay, (bay + 1) % 7)), b -> b.unload(bay));
        }
        says(3, "Throws `UnsupportedOperationException` if the absolute value of the moment would be greater");
        Calls balanced = b -> {
            b.load(4, 1, 0);
            b.load(2, 1, 0);
            b.load(5, 20, 1);
            b.load(1, 20, 1);
            b.load(5, 10, 1);
        };
        answers("to 21 of 21", 1, balanced.then(limit(21)), b -> b.unload(2));
        refusesBalance("to 21 of 20", balanced.then(limit(20)), b -> b.unload(2));
        answers("to 19 of 20", 0, balanced.then(limit(20)), b -> b.unload(4));
        Calls mirrored = b -> {
            b.load(2, 1, 0);
            b.load(4, 1, 0);
            b.load(1, 20, 1);
            b.load(5, 20, 1);
            b.load(1, 10, 1);
        };
        answers("to -21 of 21", 1, mirrored.then(limit(21)), b -> b.unload(4));
        refusesBalance("to -21 of 20", mirrored.then(limit(20)), b -> b.unload(4));
        answers("to -19 of 20", 0, mirrored.then(limit(20)), b -> b.unload(2));
    }

    private static void unloadInEachPort() {
        says(3, "Throws `IllegalStateException` if the barge is not in the destination of the pillow");
        for (int port = 0; port < 5; port++) {
            for (int number = 0; number < 5; number++) {
                int destination = number;
                for (boolean ascending : new boolean[] {true, false}) {
                    Calls there = TermsSentences.at(port, ascending).then(b -> b.load(3, 1, destination));
                    if (port == destination) {
                        answers("for " + destination + " in " + port, 0, there, b -> b.unload(3));
                    } else {
                        refusesState("for " + destination + " in " + port, there, b -> b.unload(3));
                    }
                }
            }
        }
    }

    private static void shift() {
        says(4, "Moves the top pillow of a stack onto another stack.", "Returns the number of the pillow.");
        for (int bay = 0; bay <= 6; bay++) {
            for (int other = 0; other <= 6; other++) {
                if (other != bay) {
                    shiftBetween(bay, other);
                }
            }
        }
    }

    private static void shiftBetween(int from, int to) {
        PillowBarge b = new PillowBarge();
        b.load(to, 2, 3);
        b.load(from, 3, 1);
        b.load(from, 4, 2);
        b.sail(7);
        holds("shift of the top", b.shift(from, to), 2);
        holds("bay", b.bayOf(2), to);
        holds("position", b.positionOf(2), 1);
        holds("weight", b.weightOf(2), 4);
        holds("destination", b.destinationOf(2), 2);
        holds("age", b.ageOf(2), 7);
        holds("moment", b.moment(), 3 * (from - 3) + 6 * (to - 3));
        holds("the lower one stays", b.bayOf(1), from);
        holds("shift of the last", b.shift(from, to), 1);
        holds("an empty stack", b.stackHeight(from), 0);
        holds("on top", b.pillowAt(to, 2), 1);
        holds("deliveredTotal", b.deliveredTotal(), 0);
        holds("loadedTotal", b.loadedTotal(), 3);
    }

    private static void shiftRefused() {
        says(4, "Throws `IndexOutOfBoundsException` if there is no such bay, for either argument");
        for (int bay : new int[] {-1, 7, LEAST, GREATEST}) {
            for (Calls before : new Calls[] {EMPTY, BUSY}) {
                refusesIndex("from " + bay, before, b -> b.shift(bay, 2));
                refusesIndex("to " + bay, before, b -> b.shift(2, bay));
                refusesIndex("both " + bay, before, b -> b.shift(bay, bay));
            }
        }
        says(4, "Throws `IllegalArgumentException` if both bays are the same");
        says(4, "Throws `NoSuchElementException` if the first stack is empty");
        says(4, "Throws `IllegalStateException` if the second stack has 5 pillows");
        for (int bay = 0; bay <= 6; bay++) {
            shiftRefusedAt(bay);
        }
        says(4, "Throws `UnsupportedOperationException` if the absolute value of the moment would be greater");
        Calls middle = b -> b.load(3, 6, 0);
        answers("to 60", 60, tilt(54).then(middle).then(b -> b.shift(3, 4)), b -> b.moment());
        answers("to -60", -60, tilt(-54).then(middle).then(b -> b.shift(3, 2)), b -> b.moment());
        refusesBalance("to 61", tilt(55).then(middle), b -> b.shift(3, 4));
        refusesBalance("to -61", tilt(-55).then(middle), b -> b.shift(3, 2));
        answers("to 12 of 12", 0, middle.then(limit(12)), b -> b.shift(3, 5));
        refusesBalance("to 12 of 11", middle.then(limit(11)), b -> b.shift(3, 5));
        refusesBalance("to -12 of 11", middle.then(limit(11)), b -> b.shift(3, 1));
    }

    private static void shiftRefusedAt(int bay) {
        int next = (bay + 1) % 7;
        refusesArgument("bay " + bay + " to itself", stack(bay, 1), b -> b.shift(bay, bay));
        refusesArgument("empty bay " + bay + " to itself", EMPTY, b -> b.shift(bay, bay));
        refusesArgument("full bay " + bay + " to itself", stack(bay, 5), b -> b.shift(bay, bay));
        refusesElement("from the empty bay " + bay, EMPTY, b -> b.shift(bay, next));
        refusesElement("from the empty bay " + bay, stack(next, 1), b -> b.shift(bay, next));
        answers("from bay " + bay + " with one", 0, stack(bay, 1), b -> b.shift(bay, next));
        answers("to bay " + bay + " with four", 4, stack(bay, 4).then(stack(next, 1)), b -> b.shift(next, bay));
        refusesState("to bay " + bay + " with five", stack(bay, 5).then(stack(next, 1)), b -> b.shift(next, bay));
    }

    private static void sail() {
        says(5, "Sails for some legs.", "Returns the port after the call.");
        for (int port = 0; port < 5; port++) {
            for (int number = 1; number <= 20; number++) {
                int legs = number;
                int day = port == 0 ? 5 : port;
                Calls ascending = TermsSentences.at(port, true);
                Calls descending = TermsSentences.at(port, false);
                answers(legs + " from " + port, (port + legs) % 5, ascending, b -> b.sail(legs));
                answers(legs + " back from " + port, (port + 20 - legs) % 5, descending, b -> b.sail(legs));
                answers("port", (port + 20 - legs) % 5, descending.then(b -> b.sail(legs)), b -> b.port());
                answers("day", day + legs, ascending.then(b -> b.sail(legs)), b -> b.day());
                answers("day", day + legs, descending.then(b -> b.sail(legs)), b -> b.day());
            }
        }
        says(5, "Throws `IllegalArgumentException` if legs is not between 1 and 20");
        for (int legs : new int[] {0, 21, -1, LEAST, GREATEST}) {
            refusesArgument("legs " + legs, EMPTY, b -> b.sail(legs));
            refusesArgument("legs " + legs, BUSY, b -> b.sail(legs));
        }
    }

    private static void turn() {
        says(6, "Reverses the rotation of the ports.", "Returns true if the rotation is ascending after the call.");
        answers("once", false, EMPTY, b -> b.turn());
        answers("twice", true, b -> b.turn(), b -> b.turn());
        answers("isAscending", false, b -> b.turn(), b -> b.isAscending());
        answers("the port stays", 3, TermsSentences.at(3, false), b -> b.port());
        answers("the day stays", 3, TermsSentences.at(3, false), b -> b.day());
        holds("twice changes nothing", Probe.now(BUSY.then(b -> b.turn()).then(b -> b.turn())), Probe.now(BUSY));
    }

    private static void setLimit() {
        says(7, "Sets the limit.", "Returns the previous limit.");
        answers("the first one", 60, EMPTY, b -> b.setLimit(10));
        answers("the least one", 10, limit(10), b -> b.setLimit(99));
        answers("the greatest one", 99, limit(99), b -> b.setLimit(99));
        answers("the same one", 60, EMPTY, b -> b.setLimit(60));
        answers("limit", 10, limit(10), b -> b.limit());
        answers("limit", 99, limit(99), b -> b.limit());
        says(7, "Throws `IllegalArgumentException` if limit is not between 10 and 99");
        for (int limit : new int[] {9, 100, 0, -10, -60, LEAST, GREATEST}) {
            refusesArgument("limit " + limit, EMPTY, b -> b.setLimit(limit));
            refusesArgument("limit " + limit, BUSY, b -> b.setLimit(limit));
        }
        says(7, "Throws `UnsupportedOperationException` if the absolute value of the moment is greater than this");
        for (int number = 10; number <= 99; number++) {
            int limit = number;
            answers("limit at " + limit, 99, limit(99).then(tilt(limit)), b -> b.setLimit(limit));
            answers("limit at -" + limit, 99, limit(99).then(tilt(-limit)), b -> b.setLimit(limit));
            if (limit > 10) {
                refusesBalance("limit below " + limit, limit(99).then(tilt(limit)), b -> b.setLimit(limit - 1));
                refusesBalance("limit below -" + limit, limit(99).then(tilt(-limit)), b -> b.setLimit(limit - 1));
            }
        }
    }

    private static void drill() {
        says(8, "Carries out a drill.", "Returns true if the barge capsizes in the drill.");
        answers("60 of 60", false, EMPTY, b -> b.drill(60));
        answers("61 of 60", true, EMPTY, b -> b.drill(61));
        answers("-60 of 60", false, EMPTY, b -> b.drill(-60));
        answers("-61 of 60", true, EMPTY, b -> b.drill(-61));
        answers("counted", 1, b -> b.drill(0), b -> b.drillTotal());
        says(8, "Throws `IllegalArgumentException` if push is not between -99 and 99");
        for (int push : new int[] {-100, 100, LEAST, GREATEST}) {
            refusesArgument("push " + push, EMPTY, b -> b.drill(push));
            refusesArgument("push " + push, BUSY, b -> b.drill(push));
        }
        answers("push -99", true, EMPTY, b -> b.drill(-99));
        answers("push 99", true, EMPTY, b -> b.drill(99));
        answers("push 99 of 99", false, limit(99), b -> b.drill(99));
        answers("push -99 of 99", false, limit(99), b -> b.drill(-99));
    }
}
