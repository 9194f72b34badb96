/** Promises 1 to 8, 39 to 43 and 46: a new object, what changes it, and what is counted. */
public final class ChangesTest extends Check {
    public static void main(String[] args) {
        newObject();
        load();
        loadExceptions();
        loadLimit();
        unload();
        unloadExceptions();
        shift();
        shiftExceptions();
        shiftLimit();
        sail();
        turn();
        setLimit();
        drill();
        loadedTotals();
        drillTotals();
        isConsistent();
        end("ChangesTest");
    }

    private static void newObject() {
        PillowBarge b = new PillowBarge();
        due("1 pillowCount", b.pillowCount(), 0);
        due("1 port", b.port(), 0);
        due("1 day", b.day(), 0);
        due("1 isAscending", b.isAscending(), true);
        due("1 limit", b.limit(), 60);
        due("1 moment", b.moment(), 0);
        due("1 totalWeight", b.totalWeight(), 0);
        due("1 loadedTotal", b.loadedTotal(), 0);
        due("1 deliveredTotal", b.deliveredTotal(), 0);
        due("1 deliveredWeight", b.deliveredWeight(), 0);
        due("1 drillTotal", b.drillTotal(), 0);
        due("1 capsizedTotal", b.capsizedTotal(), 0);
        due("1 isConsistent", b.isConsistent(), true);
        for (int bay = 0; bay < 7; bay++) {
            due("1 stackHeight", b.stackHeight(bay), 0);
        }
        dueThrow("1 weightOf", ELEMENT, () -> b.weightOf(0));
        dueThrow("1 outputAt", INDEX, () -> b.outputAt(0));
        dueThrow("1 undo", ELEMENT, () -> b.undo());
        dueThrow("1 restore", STATE, () -> b.restore());
        dueThrow("1 errorPosition", ELEMENT, () -> b.errorPosition());
        dueThrow("1 failedCommand", ELEMENT, () -> b.failedCommand());
        due("1 type", b.type('x'), 1);
    }

    private static void load() {
        PillowBarge b = new PillowBarge();
        b.sail(2);
        due("2 load to the limit", b.load(0, 20, 4), 0);
        due("2 load", b.load(6, 1, 0), 1);
        due("2 load on top", b.load(0, 1, 2), 2);
        due("2 pillowAt", b.pillowAt(0, 0), 0);
        due("2 pillowAt", b.pillowAt(0, 1), 2);
        due("2 weightOf", b.weightOf(0), 20);
        due("2 weightOf", b.weightOf(2), 1);
        due("2 destinationOf", b.destinationOf(0), 4);
        due("2 bayOf", b.bayOf(1), 6);
        due("2 ageOf", b.ageOf(2), 0);
        due("2 moment", b.moment(), -60);
    }

    private static void loadExceptions() {
        PillowBarge b = new PillowBarge();
        for (int bay : NO_BAYS) {
            dueThrow("2 load in bay " + bay, INDEX, () -> b.load(bay, 1, 0));
            dueThrow("2 load in bay " + bay, INDEX, () -> b.load(bay, 0, 9));
        }
        for (int weight : NO_WEIGHTS) {
            dueThrow("2 load of weight " + weight, ARGUMENT, () -> b.load(3, weight, 0));
        }
        for (int port : NO_PORTS) {
            dueThrow("2 load for port " + port, ARGUMENT, () -> b.load(3, 1, port));
        }
        b.setLimit(10);
        for (int pillow = 0; pillow < 5; pillow++) {
            due("2 load", b.load(4, 2, 0), pillow);
        }
        dueThrow("2 load on a full stack", STATE, () -> b.load(4, 1, 0));
        dueThrow("2 wrong weight on a full stack", ARGUMENT, () -> b.load(4, 21, 0));
        dueThrow("2 wrong port on a full stack", ARGUMENT, () -> b.load(4, 1, 5));
        dueThrow("2 load beyond the limit", BALANCE, () -> b.load(5, 1, 0));
        due("2 nothing has changed", b.pillowCount(), 5);
        due("2 no number is spent", b.load(3, 20, 0), 5);
    }

    private static void loadLimit() {
        PillowBarge b = new PillowBarge();
        b.setLimit(11);
        dueThrow("2 load beyond the limit", BALANCE, () -> b.load(6, 4, 0));
        dueThrow("2 load beyond the limit", BALANCE, () -> b.load(0, 4, 0));
        due("2 load in the middle", b.load(3, 20, 0), 0);
        due("2 load below the limit", b.load(1, 5, 0), 1);
        due("2 load to the limit", b.load(2, 1, 0), 2);
        due("2 moment", b.moment(), -11);
        dueThrow("2 load beyond the limit", BALANCE, () -> b.load(2, 1, 0));
        due("2 load to the other side", b.load(5, 11, 0), 3);
        due("2 moment", b.moment(), 11);
        dueThrow("2 load beyond the limit", BALANCE, () -> b.load(4, 1, 0));
    }

    private static void unload() {
        PillowBarge b = new PillowBarge();
        b.load(2, 7, 1);
        b.load(2, 5, 0);
        due("3 unload", b.unload(2), 1);
        due("3 stackHeight", b.stackHeight(2), 1);
        due("3 deliveredTotal", b.deliveredTotal(), 1);
        due("3 deliveredWeight", b.deliveredWeight(), 5);
        due("3 moment", b.moment(), -7);
        dueThrow("3 the pillow is gone", ELEMENT, () -> b.weightOf(1));
        b.sail(1);
        due("3 unload", b.unload(2), 0);
        due("3 deliveredWeight", b.deliveredWeight(), 12);
        due("3 a number is never used again", b.load(2, 1, 0), 2);
    }

    private static void unloadExceptions() {
        PillowBarge b = new PillowBarge();
        for (int bay : NO_BAYS) {
            dueThrow("3 unload of bay " + bay, INDEX, () -> b.unload(bay));
        }
        dueThrow("3 unload of an empty stack", ELEMENT, () -> b.unload(0));
        b.setLimit(10);
        b.load(4, 10, 0);
        b.load(2, 10, 0);
        b.load(4, 10, 1);
        dueThrow("3 unload in another port", STATE, () -> b.unload(4));
        due("3 load", b.load(2, 1, 0), 3);
        dueThrow("3 unload in another port beyond the limit", STATE, () -> b.unload(4));
        due("3 unload", b.unload(2), 3);
        b.sail(1);
        due("3 unload", b.unload(4), 2);
        dueThrow("3 unload in another port", STATE, () -> b.unload(4));
        due("3 load", b.load(2, 1, 1), 4);
        b.sail(4);
        dueThrow("3 unload beyond the limit", BALANCE, () -> b.unload(4));
        due("3 nothing has changed", b.stackHeight(4), 1);
        due("3 nothing is delivered", b.deliveredTotal(), 2);
        b.sail(1);
        b.unload(2);
        b.sail(4);
        due("3 unload to the limit", b.unload(4), 0);
        due("3 moment", b.moment(), -10);
    }

    private static void shift() {
        PillowBarge b = new PillowBarge();
        b.load(1, 4, 3);
        b.load(1, 6, 2);
        b.sail(3);
        b.load(5, 2, 1);
        due("4 shift", b.shift(1, 5), 1);
        due("4 the pillow below stays", b.pillowAt(1, 0), 0);
        due("4 stackHeight", b.stackHeight(1), 1);
        due("4 it lies on top", b.pillowAt(5, 1), 1);
        due("4 weight", b.weightOf(1), 6);
        due("4 destination", b.destinationOf(1), 2);
        due("4 age", b.ageOf(1), 3);
        due("4 moment", b.moment(), 8);
        due("4 nothing is delivered", b.deliveredTotal(), 0);
        due("4 nothing is loaded", b.loadedTotal(), 3);
        due("4 shift into an empty stack", b.shift(1, 0), 0);
        due("4 stackHeight", b.stackHeight(1), 0);
        due("4 position", b.positionOf(0), 0);
    }

    private static void shiftExceptions() {
        PillowBarge b = new PillowBarge();
        for (int bay : NO_BAYS) {
            dueThrow("4 shift from " + bay, INDEX, () -> b.shift(bay, 0));
            dueThrow("4 shift to " + bay, INDEX, () -> b.shift(0, bay));
            dueThrow("4 shift of " + bay + " to itself", INDEX, () -> b.shift(bay, bay));
        }
        dueThrow("4 shift of an empty stack to itself", ARGUMENT, () -> b.shift(2, 2));
        dueThrow("4 shift of an empty stack", ELEMENT, () -> b.shift(2, 3));
        b.setLimit(10);
        for (int pillow = 0; pillow < 5; pillow++) {
            b.load(4, 2, 0);
        }
        dueThrow("4 shift of a full stack to itself", ARGUMENT, () -> b.shift(4, 4));
        dueThrow("4 shift of an empty stack to a full one", ELEMENT, () -> b.shift(2, 4));
        b.load(3, 1, 0);
        dueThrow("4 shift to a full stack beyond the limit", STATE, () -> b.shift(3, 4));
        dueThrow("4 shift beyond the limit", BALANCE, () -> b.shift(4, 5));
        due("4 nothing has changed", b.stackHeight(4), 5);
        due("4 nothing has changed", b.moment(), 10);
    }

    private static void shiftLimit() {
        PillowBarge b = new PillowBarge();
        b.setLimit(10);
        b.load(3, 10, 0);
        due("4 shift to the limit", b.shift(3, 2), 0);
        dueThrow("4 shift beyond the limit", BALANCE, () -> b.shift(2, 1));
        due("4 shift across the middle", b.shift(2, 4), 0);
        due("4 moment", b.moment(), 10);
        dueThrow("4 shift beyond the limit", BALANCE, () -> b.shift(4, 1));
    }

    private static void sail() {
        PillowBarge b = new PillowBarge();
        due("5 sail", b.sail(1), 1);
        due("5 sail", b.sail(3), 4);
        due("5 sail", b.sail(1), 0);
        due("5 sail", b.sail(20), 0);
        due("5 sail", b.sail(12), 2);
        due("5 port", b.port(), 2);
        due("5 day", b.day(), 37);
        b.turn();
        due("5 sail in descending rotation", b.sail(1), 1);
        due("5 sail in descending rotation", b.sail(2), 4);
        due("5 sail in descending rotation", b.sail(19), 0);
        due("5 day", b.day(), 59);
        for (int legs : new int[] {0, -1, 21, Integer.MIN_VALUE, Integer.MAX_VALUE}) {
            dueThrow("5 sail for " + legs, ARGUMENT, () -> b.sail(legs));
        }
        due("5 nothing has changed", b.day(), 59);
    }

    private static void turn() {
        PillowBarge b = new PillowBarge();
        due("6 turn", b.turn(), false);
        due("6 isAscending", b.isAscending(), false);
        due("6 turn", b.turn(), true);
        due("6 isAscending", b.isAscending(), true);
        due("6 port", b.port(), 0);
        due("6 day", b.day(), 0);
    }

    private static void setLimit() {
        PillowBarge b = new PillowBarge();
        due("7 setLimit", b.setLimit(99), 60);
        due("7 setLimit", b.setLimit(10), 99);
        due("7 limit", b.limit(), 10);
        for (int limit : new int[] {9, 0, -10, 100, Integer.MIN_VALUE, Integer.MAX_VALUE}) {
            dueThrow("7 setLimit " + limit, ARGUMENT, () -> b.setLimit(limit));
        }
        b.setLimit(60);
        b.load(0, 10, 0);
        dueThrow("7 setLimit below the moment", BALANCE, () -> b.setLimit(29));
        dueThrow("7 no such limit", ARGUMENT, () -> b.setLimit(9));
        due("7 setLimit to the moment", b.setLimit(30), 60);
        due("7 limit", b.limit(), 30);
        b.load(6, 20, 0);
        due("7 moment", b.moment(), 30);
        dueThrow("7 setLimit below the moment", BALANCE, () -> b.setLimit(29));
        due("7 nothing has changed", b.limit(), 30);
    }

    private static void drill() {
        PillowBarge b = new PillowBarge();
        due("8 drill", b.drill(60), false);
        due("8 drill", b.drill(61), true);
        due("8 drill", b.drill(-60), false);
        due("8 drill", b.drill(-61), true);
        due("8 drill", b.drill(99), true);
        due("8 drill", b.drill(-99), true);
        due("8 drill", b.drill(0), false);
        b.load(5, 10, 0);
        due("8 drill", b.drill(40), false);
        due("8 drill", b.drill(41), true);
        due("8 drill", b.drill(-80), false);
        due("8 drill", b.drill(-81), true);
        due("8 a drill changes no moment", b.moment(), 20);
        due("8 a drill changes no limit", b.limit(), 60);
        due("8 drillTotal", b.drillTotal(), 11);
        for (int push : new int[] {100, -100, Integer.MIN_VALUE, Integer.MAX_VALUE}) {
            dueThrow("8 drill " + push, ARGUMENT, () -> b.drill(push));
        }
        due("8 drillTotal", b.drillTotal(), 11);
    }

    private static void loadedTotals() {
        PillowBarge b = new PillowBarge();
        b.load(3, 4, 0);
        b.load(3, 9, 0);
        b.load(2, 2, 1);
        due("39 loadedTotal", b.loadedTotal(), 3);
        due("40 deliveredTotal", b.deliveredTotal(), 0);
        b.unload(3);
        due("39 loadedTotal", b.loadedTotal(), 3);
        due("40 deliveredTotal", b.deliveredTotal(), 1);
        due("41 deliveredWeight", b.deliveredWeight(), 9);
        b.unload(3);
        due("40 deliveredTotal", b.deliveredTotal(), 2);
        due("41 deliveredWeight", b.deliveredWeight(), 13);
        outcome(() -> b.unload(2));
        due("40 deliveredTotal", b.deliveredTotal(), 2);
        b.load(1, 1, 1);
        due("39 loadedTotal", b.loadedTotal(), 4);
    }

    private static void drillTotals() {
        PillowBarge b = new PillowBarge();
        b.drill(61);
        b.drill(60);
        b.drill(-99);
        due("42 drillTotal", b.drillTotal(), 3);
        due("43 capsizedTotal", b.capsizedTotal(), 2);
        outcome(() -> b.drill(100));
        due("42 drillTotal", b.drillTotal(), 3);
        due("43 capsizedTotal", b.capsizedTotal(), 2);
    }

    private static void isConsistent() {
        PillowBarge b = new PillowBarge();
        b.load(0, 20, 3);
        due("46 at the limit", b.isConsistent(), true);
        b.load(6, 20, 0);
        b.load(6, 10, 4);
        b.load(6, 1, 2);
        outcome(() -> b.load(6, 20, 2));
        due("46 with pillows in the way", b.isConsistent(), true);
        b.sail(2);
        b.unload(6);
        due("46 after a delivery", b.isConsistent(), true);
        b.turn();
        due("46 in descending rotation", b.isConsistent(), true);
        b.undo();
        b.undo();
        due("46 after undo", b.isConsistent(), true);
    }
}
