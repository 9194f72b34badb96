/** Promises 9 to 38, 44 and 45: what can be asked, predicted and ranked. */
public final class QueriesTest extends Check {
    private static final int[] NO_RANKS = {-1, 35, 99, Integer.MIN_VALUE, Integer.MAX_VALUE};

    public static void main(String[] args) {
        pillowCount();
        stackHeight();
        pillowAt();
        onePillow();
        noSuchPillow();
        ageOf();
        moment();
        totalWeight();
        weightFor();
        limit();
        listAngle();
        greatestPush();
        levelingBay();
        levelingBayTies();
        levelingBayLeavesOut();
        levelingBayOfFullBarge();
        voyage();
        legsTo();
        portAfter();
        pillowsInTheWay();
        pairsAcrossStacks();
        unloadableCount();
        oldestIn();
        heaviestPort();
        possibleShifts();
        possibleShiftsToFullStacks();
        pillowByTurn();
        bayByWeight();
        meanAge();
        capsizedShare();
        end("QueriesTest");
    }

    private static void pillowCount() {
        PillowBarge b = new PillowBarge();
        b.load(3, 1, 0);
        b.load(3, 1, 1);
        b.load(0, 1, 0);
        due("9 pillowCount", b.pillowCount(), 3);
        b.unload(0);
        due("9 pillowCount", b.pillowCount(), 2);
        b.shift(3, 4);
        due("9 pillowCount", b.pillowCount(), 2);
        b.sail(1);
        b.unload(4);
        due("9 pillowCount", b.pillowCount(), 1);
    }

    private static void stackHeight() {
        PillowBarge b = new PillowBarge();
        for (int height = 0; height < 5; height++) {
            due("10 stackHeight", b.stackHeight(6), height);
            b.load(6, 1, 0);
        }
        due("10 stackHeight", b.stackHeight(6), 5);
        due("10 stackHeight of the next bay", b.stackHeight(5), 0);
        b.shift(6, 0);
        due("10 stackHeight", b.stackHeight(6), 4);
        due("10 stackHeight", b.stackHeight(0), 1);
        for (int bay : NO_BAYS) {
            dueThrow("10 stackHeight of " + bay, INDEX, () -> b.stackHeight(bay));
        }
    }

    private static void pillowAt() {
        PillowBarge b = new PillowBarge();
        b.load(2, 1, 0);
        b.load(4, 1, 0);
        b.load(2, 1, 0);
        b.load(3, 1, 0);
        due("11 pillowAt", b.pillowAt(2, 0), 0);
        due("11 pillowAt", b.pillowAt(2, 1), 2);
        due("11 pillowAt", b.pillowAt(4, 0), 1);
        due("11 pillowAt", b.pillowAt(3, 0), 3);
        for (int position : new int[] {-1, 2, 4, 5, 6, Integer.MIN_VALUE, Integer.MAX_VALUE}) {
            dueThrow("11 pillowAt position " + position, ELEMENT, () -> b.pillowAt(2, position));
        }
        dueThrow("11 pillowAt in an empty stack", ELEMENT, () -> b.pillowAt(6, 0));
        for (int bay : NO_BAYS) {
            dueThrow("11 pillowAt in " + bay, INDEX, () -> b.pillowAt(bay, 0));
            dueThrow("11 pillowAt in " + bay, INDEX, () -> b.pillowAt(bay, -1));
        }
    }

    private static void onePillow() {
        PillowBarge b = new PillowBarge();
        b.load(6, 3, 4);
        b.load(0, 5, 2);
        b.load(0, 1, 0);
        due("12 weightOf", b.weightOf(0), 3);
        due("12 weightOf", b.weightOf(1), 5);
        due("12 weightOf", b.weightOf(2), 1);
        due("13 destinationOf", b.destinationOf(0), 4);
        due("13 destinationOf", b.destinationOf(1), 2);
        due("13 destinationOf", b.destinationOf(2), 0);
        due("14 bayOf", b.bayOf(0), 6);
        due("14 bayOf", b.bayOf(1), 0);
        due("14 bayOf", b.bayOf(2), 0);
        due("15 positionOf", b.positionOf(0), 0);
        due("15 positionOf", b.positionOf(1), 0);
        due("15 positionOf", b.positionOf(2), 1);
        b.shift(0, 6);
        b.shift(0, 6);
        due("14 bayOf", b.bayOf(2), 6);
        due("15 positionOf", b.positionOf(2), 1);
        due("15 positionOf", b.positionOf(1), 2);
        due("12 weightOf", b.weightOf(1), 5);
        due("13 destinationOf", b.destinationOf(1), 2);
    }

    private static void noSuchPillow() {
        PillowBarge b = new PillowBarge();
        dueNoPillow(b, 0);
        b.load(3, 2, 0);
        b.load(3, 2, 0);
        b.unload(3);
        due("12 weightOf", b.weightOf(0), 2);
        for (int pillow : new int[] {-1, 1, 2, 35, Integer.MIN_VALUE, Integer.MAX_VALUE}) {
            dueNoPillow(b, pillow);
        }
    }

    private static void dueNoPillow(PillowBarge b, int pillow) {
        dueThrow("12 weightOf " + pillow, ELEMENT, () -> b.weightOf(pillow));
        dueThrow("13 destinationOf " + pillow, ELEMENT, () -> b.destinationOf(pillow));
        dueThrow("14 bayOf " + pillow, ELEMENT, () -> b.bayOf(pillow));
        dueThrow("15 positionOf " + pillow, ELEMENT, () -> b.positionOf(pillow));
        dueThrow("16 ageOf " + pillow, ELEMENT, () -> b.ageOf(pillow));
        dueThrow("30 pillowsInTheWay of " + pillow, ELEMENT, () -> b.pillowsInTheWay(pillow));
    }

    private static void ageOf() {
        PillowBarge b = new PillowBarge();
        b.load(3, 1, 0);
        due("16 ageOf", b.ageOf(0), 0);
        b.sail(3);
        b.load(3, 1, 0);
        b.turn();
        b.sail(20);
        due("16 ageOf", b.ageOf(0), 23);
        due("16 ageOf", b.ageOf(1), 20);
        b.shift(3, 4);
        due("16 ageOf after a shift", b.ageOf(1), 20);
    }

    private static void moment() {
        PillowBarge b = new PillowBarge();
        int[] weights = {2, 3, 5, 20, 7, 11, 4};
        int[] moments = {-6, -12, -17, -17, -10, 12, 24};
        for (int bay = 0; bay < 7; bay++) {
            b.load(bay, weights[bay], 0);
            due("17 moment", b.moment(), moments[bay]);
            due("18 momentByBays", b.momentByBays(), moments[bay]);
        }
        b.load(1, 10, 0);
        due("17 moment", b.moment(), 4);
        due("18 momentByBays", b.momentByBays(), 4);
        b.shift(5, 0);
        due("17 moment", b.moment(), -51);
        due("18 momentByBays", b.momentByBays(), -51);
    }

    private static void totalWeight() {
        PillowBarge b = new PillowBarge();
        due("19 totalWeight", b.totalWeight(), 0);
        b.load(3, 20, 0);
        b.load(3, 1, 0);
        b.load(0, 5, 0);
        b.load(6, 6, 0);
        due("19 totalWeight", b.totalWeight(), 32);
        b.unload(3);
        due("19 totalWeight", b.totalWeight(), 31);
    }

    private static void weightFor() {
        PillowBarge b = new PillowBarge();
        b.load(0, 5, 1);
        b.load(2, 7, 1);
        b.load(4, 2, 4);
        b.load(4, 3, 0);
        int[] weights = {3, 12, 0, 0, 2};
        for (int port = 0; port < 5; port++) {
            due("20 weightFor " + port, b.weightFor(port), weights[port]);
        }
        b.unload(4);
        due("20 weightFor", b.weightFor(0), 0);
        for (int port : NO_PORTS) {
            dueThrow("20 weightFor " + port, INDEX, () -> b.weightFor(port));
        }
    }

    private static void limit() {
        PillowBarge b = new PillowBarge();
        due("21 limit", b.limit(), 60);
        b.setLimit(35);
        due("21 limit", b.limit(), 35);
    }

    private static void listAngle() {
        PillowBarge empty = new PillowBarge();
        due("22 listAngle", empty.listAngle(), 0.0f);
        PillowBarge b = new PillowBarge();
        b.load(5, 10, 0);
        due("22 listAngle", b.listAngle(), 18.0f);
        b.load(0, 7, 0);
        due("22 listAngle", b.listAngle(), -45.0f / 57.0f);
        PillowBarge ordered = new PillowBarge();
        ordered.load(5, 12, 0);
        // Another order of the operations rounds to 20.769232f.
        due("22 listAngle from left to right", ordered.listAngle(), 20.76923f);
    }

    private static void greatestPush() {
        PillowBarge b = new PillowBarge();
        due("23 greatestPush", b.greatestPush(), 60);
        b.load(0, 20, 0);
        due("23 greatestPush", b.greatestPush(), 120);
        b.load(6, 20, 0);
        b.load(6, 20, 0);
        due("23 greatestPush", b.greatestPush(), 0);
        b.setLimit(99);
        due("23 greatestPush", b.greatestPush(), 39);
        due("23 drill", b.drill(39), false);
        due("23 drill", b.drill(40), true);
    }

    private static void levelingBay() {
        PillowBarge b = new PillowBarge();
        due("24 levelingBay", b.levelingBay(5), 3);
        b.load(0, 10, 0);
        due("24 levelingBay", b.levelingBay(10), 6);
        due("24 levelingBay", b.levelingBay(15), 5);
        due("24 levelingBay", b.levelingBay(1), 6);
        due("24 of two bays the lower index", b.levelingBay(20), 4);
        for (int weight : NO_WEIGHTS) {
            dueThrow("24 levelingBay for " + weight, ARGUMENT, () -> b.levelingBay(weight));
        }
        due("24 nothing is loaded", b.pillowCount(), 1);
        PillowBarge other = new PillowBarge();
        other.load(6, 10, 0);
        due("24 levelingBay", other.levelingBay(10), 0);
        due("24 levelingBay", other.levelingBay(15), 1);
        due("24 of two bays the lower index", other.levelingBay(20), 1);
        due("24 levelingBay", other.levelingBay(18), 1);
    }

    private static void levelingBayTies() {
        PillowBarge b = new PillowBarge();
        b.load(0, 10, 0);
        b.load(4, 2, 0);
        b.load(2, 2, 0);
        due("24 of two bays the lower stack", b.levelingBay(20), 5);
        b.load(5, 1, 0);
        b.load(1, 1, 0);
        due("24 of two stacks the lower index", b.levelingBay(20), 4);
    }

    private static void levelingBayLeavesOut() {
        PillowBarge b = new PillowBarge();
        for (int pillow = 0; pillow < 5; pillow++) {
            b.load(3, 1, 0);
        }
        due("24 full stacks are left out", b.levelingBay(5), 2);
        b.setLimit(10);
        due("24 a bay to the limit", b.levelingBay(10), 2);
        dueThrow("24 bays beyond the limit", ELEMENT, () -> b.levelingBay(11));
        dueThrow("24 no such weight", ARGUMENT, () -> b.levelingBay(21));
    }

    private static void levelingBayOfFullBarge() {
        PillowBarge b = new PillowBarge();
        for (int pillow = 0; pillow < 35; pillow++) {
            b.load(pillow % 7, 1, 0);
        }
        due("24 moment of a full barge", b.moment(), 0);
        due("24 pillowCount of a full barge", b.pillowCount(), 35);
        dueThrow("24 levelingBay of a full barge", ELEMENT, () -> b.levelingBay(1));
        due("37 last rank of a full barge", b.pillowByTurn(34), 34);
        due("36 possibleShifts of a full barge", b.possibleShifts(), 0);
        due("33 unloadableCount of a full barge", b.unloadableCount(), 7);
    }

    private static void voyage() {
        PillowBarge b = new PillowBarge();
        due("25 port", b.port(), 0);
        due("26 day", b.day(), 0);
        due("27 isAscending", b.isAscending(), true);
        b.sail(7);
        due("25 port", b.port(), 2);
        due("26 day", b.day(), 7);
        b.turn();
        b.sail(1);
        due("25 port", b.port(), 1);
        due("26 day", b.day(), 8);
        due("27 isAscending", b.isAscending(), false);
    }

    private static void legsTo() {
        PillowBarge b = new PillowBarge();
        dueLegs(b, 0, 1, 2, 3, 4);
        b.sail(3);
        dueLegs(b, 2, 3, 4, 0, 1);
        b.turn();
        dueLegs(b, 3, 2, 1, 0, 4);
        for (int port : NO_PORTS) {
            dueThrow("28 legsTo " + port, INDEX, () -> b.legsTo(port));
        }
    }

    private static void dueLegs(PillowBarge b, int... legs) {
        for (int port = 0; port < 5; port++) {
            due("28 legsTo " + port, b.legsTo(port), legs[port]);
        }
    }

    private static void portAfter() {
        PillowBarge b = new PillowBarge();
        b.sail(3);
        due("29 portAfter", b.portAfter(0), 3);
        due("29 portAfter", b.portAfter(1), 4);
        due("29 portAfter", b.portAfter(2), 0);
        due("29 portAfter", b.portAfter(99), 2);
        b.turn();
        due("29 portAfter", b.portAfter(0), 3);
        due("29 portAfter", b.portAfter(1), 2);
        due("29 portAfter", b.portAfter(4), 4);
        due("29 portAfter", b.portAfter(99), 4);
        for (int legs : new int[] {-1, 100, Integer.MIN_VALUE, Integer.MAX_VALUE}) {
            dueThrow("29 portAfter " + legs, ARGUMENT, () -> b.portAfter(legs));
        }
        due("29 the barge stays", b.port(), 3);
    }

    private static void pillowsInTheWay() {
        PillowBarge b = new PillowBarge();
        dueInTheWay(b, 0);
        for (int port : new int[] {1, 3, 1, 4, 0}) {
            b.load(3, 1, port);
        }
        dueInTheWay(b, 4, 2, 1, 1, 0, 0);
        b.sail(1);
        dueInTheWay(b, 8, 3, 2, 2, 1, 0);
        b.turn();
        dueInTheWay(b, 5, 3, 0, 2, 0, 0);
    }

    private static void dueInTheWay(PillowBarge b, int pairs, int... inTheWay) {
        for (int pillow = 0; pillow < inTheWay.length; pillow++) {
            due("30 pillowsInTheWay of " + pillow, b.pillowsInTheWay(pillow), inTheWay[pillow]);
        }
        due("31 pairsInTheWay", b.pairsInTheWay(), pairs);
        due("32 pairsInTheWayByStacks", b.pairsInTheWayByStacks(), pairs);
    }

    private static void pairsAcrossStacks() {
        PillowBarge b = new PillowBarge();
        b.load(2, 1, 0);
        b.load(3, 1, 4);
        dueInTheWay(b, 0, 0, 0);
        b.load(2, 1, 4);
        dueInTheWay(b, 1, 1, 0, 0);
        b.load(6, 1, 2);
        b.load(6, 1, 3);
        dueInTheWay(b, 2, 1, 0, 0, 1, 0);
        b.shift(3, 6);
        dueInTheWay(b, 4, 1, 0, 0, 2, 1);
        b.load(0, 1, 1);
        b.load(0, 1, 3);
        b.load(0, 1, 4);
        dueInTheWay(b, 7, 1, 0, 0, 2, 1, 2, 1, 0);
    }

    private static void unloadableCount() {
        PillowBarge b = new PillowBarge();
        due("33 unloadableCount", b.unloadableCount(), 0);
        b.load(3, 5, 1);
        b.load(2, 5, 0);
        b.load(2, 5, 0);
        b.load(4, 5, 0);
        due("33 unloadableCount", b.unloadableCount(), 2);
        b.sail(1);
        due("33 unloadableCount in another port", b.unloadableCount(), 1);
        PillowBarge tight = new PillowBarge();
        tight.setLimit(10);
        tight.load(5, 5, 0);
        tight.load(1, 5, 0);
        due("33 unloadableCount each by itself", tight.unloadableCount(), 2);
        tight.load(2, 1, 3);
        due("33 unloadableCount beyond the limit", tight.unloadableCount(), 1);
        due("33 unload", tight.unload(1), 1);
    }

    private static void oldestIn() {
        PillowBarge b = new PillowBarge();
        b.load(2, 1, 0);
        b.sail(2);
        b.load(3, 1, 0);
        due("34 oldestIn", b.oldestIn(3), 1);
        b.shift(2, 3);
        due("34 the oldest on top", b.oldestIn(3), 0);
        b.load(5, 1, 0);
        b.load(4, 1, 0);
        b.shift(5, 4);
        due("34 of one age the lowest number", b.oldestIn(4), 2);
        dueThrow("34 oldestIn an empty stack", ELEMENT, () -> b.oldestIn(5));
        for (int bay : NO_BAYS) {
            dueThrow("34 oldestIn " + bay, INDEX, () -> b.oldestIn(bay));
        }
    }

    private static void heaviestPort() {
        PillowBarge b = new PillowBarge();
        dueThrow("35 heaviestPort", ELEMENT, () -> b.heaviestPort());
        b.load(3, 5, 2);
        b.load(3, 7, 4);
        due("35 heaviestPort", b.heaviestPort(), 4);
        b.load(3, 2, 2);
        due("35 of two ports fewer legs", b.heaviestPort(), 2);
        b.sail(3);
        due("35 of two ports fewer legs", b.heaviestPort(), 4);
        b.turn();
        due("35 of two ports fewer legs", b.heaviestPort(), 2);
        b.sail(4);
        due("35 of two ports the present one", b.heaviestPort(), 4);
        b.load(3, 1, 1);
        due("35 heaviestPort", b.heaviestPort(), 4);
        b.load(3, 8, 1);
        due("35 heaviestPort", b.heaviestPort(), 1);
    }

    private static void possibleShifts() {
        PillowBarge b = new PillowBarge();
        due("36 possibleShifts", b.possibleShifts(), 0);
        b.load(3, 1, 0);
        due("36 possibleShifts", b.possibleShifts(), 6);
        b.load(3, 20, 0);
        due("36 possibleShifts to the limit", b.possibleShifts(), 6);
        b.load(2, 1, 0);
        due("36 possibleShifts within the limit", b.possibleShifts(), 11);
        b.load(0, 1, 0);
        due("36 possibleShifts from bay 0", b.possibleShifts(), 17);
    }

    private static void possibleShiftsToFullStacks() {
        PillowBarge b = new PillowBarge();
        for (int pillow = 0; pillow < 5; pillow++) {
            b.load(5, 1, 0);
        }
        due("36 possibleShifts from a full stack", b.possibleShifts(), 6);
        b.load(1, 5, 0);
        due("36 possibleShifts to a full stack", b.possibleShifts(), 11);
    }

    private static void pillowByTurn() {
        PillowBarge b = new PillowBarge();
        b.load(3, 1, 3);
        b.load(2, 1, 1);
        b.sail(1);
        b.load(4, 1, 1);
        b.load(3, 1, 3);
        b.load(0, 1, 1);
        dueTurns(b, 1, 2, 4, 0, 3);
        b.turn();
        dueTurns(b, 1, 2, 4, 0, 3);
        b.sail(1);
        dueTurns(b, 0, 3, 1, 2, 4);
        dueThrow("37 pillowByTurn 5", ELEMENT, () -> b.pillowByTurn(5));
        for (int rank : NO_RANKS) {
            dueThrow("37 pillowByTurn " + rank, ELEMENT, () -> b.pillowByTurn(rank));
        }
        dueThrow("37 pillowByTurn of none", ELEMENT, () -> new PillowBarge().pillowByTurn(0));
    }

    private static void dueTurns(PillowBarge b, int... pillows) {
        for (int rank = 0; rank < pillows.length; rank++) {
            due("37 pillowByTurn " + rank, b.pillowByTurn(rank), pillows[rank]);
        }
    }

    private static void bayByWeight() {
        PillowBarge b = new PillowBarge();
        dueBays(b, 0, 1, 2, 3, 4, 5, 6);
        b.load(5, 4, 0);
        b.load(1, 4, 0);
        dueBays(b, 1, 5, 0, 2, 3, 4, 6);
        b.load(3, 9, 0);
        b.load(5, 1, 0);
        dueBays(b, 3, 5, 1, 0, 2, 4, 6);
        dueThrow("38 bayByWeight 7", ELEMENT, () -> b.bayByWeight(7));
        for (int rank : NO_RANKS) {
            dueThrow("38 bayByWeight " + rank, ELEMENT, () -> b.bayByWeight(rank));
        }
    }

    private static void dueBays(PillowBarge b, int... bays) {
        for (int rank = 0; rank < bays.length; rank++) {
            due("38 bayByWeight " + rank, b.bayByWeight(rank), bays[rank]);
        }
    }

    private static void meanAge() {
        PillowBarge b = new PillowBarge();
        dueThrow("44 meanAge", ARITHMETIC, () -> b.meanAge());
        b.load(0, 1, 0);
        due("44 meanAge", b.meanAge(), 0.0);
        b.sail(2);
        b.load(3, 1, 3);
        b.sail(1);
        due("44 meanAge", b.meanAge(), 2.0);
        b.load(3, 1, 3);
        due("44 meanAge", b.meanAge(), 4.0 / 3.0);
        b.unload(3);
        b.unload(3);
        b.sail(2);
        b.unload(0);
        dueThrow("44 meanAge after the last delivery", ARITHMETIC, () -> b.meanAge());
    }

    private static void capsizedShare() {
        PillowBarge b = new PillowBarge();
        dueThrow("45 capsizedShare", ARITHMETIC, () -> b.capsizedShare());
        b.drill(60);
        due("45 capsizedShare", b.capsizedShare(), 0.0f);
        b.drill(61);
        due("45 capsizedShare", b.capsizedShare(), 0.5f);
        b.drill(1);
        due("45 capsizedShare", b.capsizedShare(), 1.0f / 3.0f);
        b.undo();
        b.undo();
        b.undo();
        dueThrow("45 capsizedShare after undo", ARITHMETIC, () -> b.capsizedShare());
    }
}
