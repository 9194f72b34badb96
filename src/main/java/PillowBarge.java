import java.util.NoSuchElementException;

/** A simulation of a barge that carries pillows between ports. */
public final class PillowBarge {

    private static final int BAYS = 7;
    private static final int MIDDLE_BAY = 3;
    private static final int STACK_SIZE = 5;
    private static final int SLOTS = BAYS * STACK_SIZE;
    private static final int PORTS = 5;
    private static final int GREATEST_WEIGHT = 20;
    private static final int GREATEST_SAIL = 20;
    private static final int GREATEST_OUTLOOK = 99;
    private static final int GREATEST_PUSH = 99;
    private static final int LEAST_LIMIT = 10;
    private static final int GREATEST_LIMIT = 99;
    private static final int FIRST_LIMIT = 60;
    private static final int UNDOABLE_CHANGES = 8;
    private static final int FIRST_CHARACTER = 32;
    private static final int LAST_CHARACTER = 126;

    private static final int NOWHERE = -1;

    private static final int LOAD = 0;
    private static final int UNLOAD = 1;
    private static final int SHIFT = 2;
    private static final int SAIL = 3;
    private static final int TURN = 4;
    private static final int LIMIT = 5;
    private static final int DRILL = 6;
    private static final int COMMANDS = 7;

    // Faults are codes first and exceptions only at the face: scripts and
    // predictions ask for the same conditions without an exception.
    private static final int NO_FAULT = 0;
    private static final int NO_SUCH_INDEX = 1;
    private static final int BAD_ARGUMENT = 2;
    private static final int NO_SUCH_ELEMENT = 3;
    private static final int BAD_STATE = 4;
    private static final int OUT_OF_BALANCE = 5;

    private final State state = new State();
    private final History history = new History();
    private final State snapshot = new State();
    private boolean hasSnapshot;
    private final Script script = new Script();
    private int latestErrorPosition = NOWHERE;
    private int latestFailedCommand = NOWHERE;
    private final StringBuilder output = new StringBuilder();
    private final int[] seenByLegs = new int[PORTS];

    public PillowBarge() {
    }

    // ---- changes ----

    public int load(int bay, int weight, int destination)
            throws IndexOutOfBoundsException, IllegalArgumentException, IllegalStateException,
            UnsupportedOperationException {
        return change(LOAD, bay, weight, destination);
    }

    public int unload(int bay)
            throws IndexOutOfBoundsException, NoSuchElementException, IllegalStateException,
            UnsupportedOperationException {
        return change(UNLOAD, bay, 0, 0);
    }

    public int shift(int from, int to)
            throws IndexOutOfBoundsException, IllegalArgumentException, NoSuchElementException,
            IllegalStateException, UnsupportedOperationException {
        return change(SHIFT, from, to, 0);
    }

    public int sail(int legs) throws IllegalArgumentException {
        return change(SAIL, legs, 0, 0);
    }

    public boolean turn() {
        return change(TURN, 0, 0, 0) == 1;
    }

    public int setLimit(int limit) throws IllegalArgumentException, UnsupportedOperationException {
        return change(LIMIT, limit, 0, 0);
    }

    public boolean drill(int push) throws IllegalArgumentException {
        return change(DRILL, push, 0, 0) == 1;
    }

    private int change(int command, int first, int second, int third) {
        throwFault(state.faultOf(command, first, second, third));
        history.draft(state);
        history.keepDraft();
        return state.perform(command, first, second, third);
    }

    private static void throwFault(int fault) {
        switch (fault) {
            case NO_SUCH_INDEX:
                throw new IndexOutOfBoundsException();
            case BAD_ARGUMENT:
                throw new IllegalArgumentException();
            case NO_SUCH_ELEMENT:
                throw new NoSuchElementException();
            case BAD_STATE:
                throw new IllegalStateException();
            case OUT_OF_BALANCE:
                throw new UnsupportedOperationException();
            default:
                break;
        }
    }

    // ---- pillows and stacks ----

    public int pillowCount() {
        return state.cargo.countPillows();
    }

    public int stackHeight(int bay) throws IndexOutOfBoundsException {
        requireBay(bay);
        return state.cargo.heightOf(bay);
    }

    public int pillowAt(int bay, int position) throws IndexOutOfBoundsException, NoSuchElementException {
        requireBay(bay);
        int slot = state.cargo.slotAt(bay, position);
        requireSlot(slot);
        return state.cargo.numberIn(slot);
    }

    public int weightOf(int pillow) throws NoSuchElementException {
        return state.cargo.weightIn(requirePillow(pillow));
    }

    public int destinationOf(int pillow) throws NoSuchElementException {
        return state.cargo.destinationIn(requirePillow(pillow));
    }

    public int bayOf(int pillow) throws NoSuchElementException {
        return requirePillow(pillow) / STACK_SIZE;
    }

    public int positionOf(int pillow) throws NoSuchElementException {
        return requirePillow(pillow) % STACK_SIZE;
    }

    public int ageOf(int pillow) throws NoSuchElementException {
        return state.ageIn(requirePillow(pillow));
    }

    public int oldestIn(int bay) throws IndexOutOfBoundsException, NoSuchElementException {
        requireBay(bay);
        int slot = oldestSlotIn(bay);
        requireSlot(slot);
        return state.cargo.numberIn(slot);
    }

    private int oldestSlotIn(int bay) {
        int oldest = NOWHERE;
        for (int position = 0; position < STACK_SIZE; position++) {
            int slot = state.cargo.slotAt(bay, position);
            if (isSlot(slot) && (oldest == NOWHERE || isOlder(slot, oldest))) {
                oldest = slot;
            }
        }
        return oldest;
    }

    private boolean isOlder(int slot, int other) {
        int age = state.ageIn(slot);
        int otherAge = state.ageIn(other);
        if (age != otherAge) {
            return age > otherAge;
        }
        return state.cargo.numberIn(slot) < state.cargo.numberIn(other);
    }

    // ---- balance ----

    public int moment() {
        return state.cargo.momentOfPillows();
    }

    public int momentByBays() {
        return state.cargo.momentOfBays();
    }

    public int totalWeight() {
        return state.cargo.weightOfAll();
    }

    public int weightFor(int port) throws IndexOutOfBoundsException {
        requirePort(port);
        return state.cargo.weightForPort(port);
    }

    public int limit() {
        return state.limit;
    }

    public float listAngle() {
        int moment = state.cargo.momentOfPillows();
        int resistance = state.cargo.weightOfAll() + 40;
        return 45.0f * (float) moment / (float) resistance;
    }

    public int greatestPush() {
        return state.limit - state.cargo.momentOfPillows();
    }

    public int levelingBay(int weight) throws IllegalArgumentException, NoSuchElementException {
        if (!isWeight(weight)) {
            throw new IllegalArgumentException();
        }
        int best = mostLevelBay(weight);
        if (best == NOWHERE) {
            throw new NoSuchElementException();
        }
        return best;
    }

    private int mostLevelBay(int weight) {
        int best = NOWHERE;
        for (int bay = 0; bay < BAYS; bay++) {
            boolean possible = state.faultOfLoad(bay, weight, 0) == NO_FAULT;
            if (possible && (best == NOWHERE || isMoreLevel(bay, best, weight))) {
                best = bay;
            }
        }
        return best;
    }

    private boolean isMoreLevel(int bay, int other, int weight) {
        int moment = state.cargo.momentOfPillows();
        int tilt = Math.abs(moment + weight * leverArm(bay));
        int otherTilt = Math.abs(moment + weight * leverArm(other));
        if (tilt != otherTilt) {
            return tilt < otherTilt;
        }
        return state.cargo.heightOf(bay) < state.cargo.heightOf(other);
    }

    // ---- ports ----

    public int port() {
        return state.voyage.port;
    }

    public int day() {
        return state.voyage.day;
    }

    public boolean isAscending() {
        return state.voyage.ascending;
    }

    public int legsTo(int port) throws IndexOutOfBoundsException {
        requirePort(port);
        return state.voyage.countLegsTo(port);
    }

    public int portAfter(int legs) throws IllegalArgumentException {
        if (legs < 0 || legs > GREATEST_OUTLOOK) {
            throw new IllegalArgumentException();
        }
        return state.voyage.portIn(legs);
    }

    public int heaviestPort() throws NoSuchElementException {
        if (state.cargo.countPillows() == 0) {
            throw new NoSuchElementException();
        }
        // In the order of the legs, only a heavier port beats an earlier one.
        int heaviest = state.voyage.port;
        for (int legs = 1; legs < PORTS; legs++) {
            int port = state.voyage.portIn(legs);
            if (state.cargo.weightForPort(port) > state.cargo.weightForPort(heaviest)) {
                heaviest = port;
            }
        }
        return heaviest;
    }

    // ---- pillows in the way ----

    public int pillowsInTheWay(int pillow) throws NoSuchElementException {
        return countInTheWayOf(requirePillow(pillow));
    }

    public int pairsInTheWay() {
        return countPairs();
    }

    public int pairsInTheWayByStacks() {
        return countPairsByStacks();
    }

    private int countPairs() {
        int pairs = 0;
        for (int slot = 0; slot < SLOTS; slot++) {
            if (state.cargo.isTaken(slot)) {
                pairs += countInTheWayOf(slot);
            }
        }
        return pairs;
    }

    private int countInTheWayOf(int slot) {
        int bay = slot / STACK_SIZE;
        int count = 0;
        for (int position = slot % STACK_SIZE + 1; position < STACK_SIZE; position++) {
            int upper = state.cargo.slotAt(bay, position);
            if (isSlot(upper) && state.legsIn(upper) > state.legsIn(slot)) {
                count++;
            }
        }
        return count;
    }

    private int countPairsByStacks() {
        int pairs = 0;
        for (int bay = 0; bay < BAYS; bay++) {
            pairs += countPairsInStack(bay);
        }
        return pairs;
    }

    private int countPairsInStack(int bay) {
        for (int legs = 0; legs < PORTS; legs++) {
            seenByLegs[legs] = 0;
        }
        int pairs = 0;
        for (int position = STACK_SIZE - 1; position >= 0; position--) {
            int slot = state.cargo.slotAt(bay, position);
            if (isSlot(slot)) {
                pairs += seePillow(state.legsIn(slot));
            }
        }
        return pairs;
    }

    private int seePillow(int ownLegs) {
        int inTheWay = 0;
        for (int legs = 0; legs < PORTS; legs++) {
            if (legs > ownLegs) {
                inTheWay += seenByLegs[legs];
            }
        }
        if (isPort(ownLegs)) {
            seenByLegs[ownLegs]++;
        }
        return inTheWay;
    }

    // ---- predictions and rankings ----

    public int unloadableCount() {
        int count = 0;
        for (int bay = 0; bay < BAYS; bay++) {
            if (state.faultOfUnload(bay) == NO_FAULT) {
                count++;
            }
        }
        return count;
    }

    public int possibleShifts() {
        int count = 0;
        for (int from = 0; from < BAYS; from++) {
            for (int to = 0; to < BAYS; to++) {
                if (state.faultOfShift(from, to) == NO_FAULT) {
                    count++;
                }
            }
        }
        return count;
    }

    public int pillowByTurn(int rank) throws NoSuchElementException {
        for (int slot = 0; slot < SLOTS; slot++) {
            if (state.cargo.isTaken(slot) && countEarlierTurns(slot) == rank) {
                return state.cargo.numberIn(slot);
            }
        }
        throw new NoSuchElementException();
    }

    private int countEarlierTurns(int slot) {
        int count = 0;
        for (int other = 0; other < SLOTS; other++) {
            if (state.cargo.isTaken(other) && hasEarlierTurn(other, slot)) {
                count++;
            }
        }
        return count;
    }

    private boolean hasEarlierTurn(int slot, int other) {
        int legs = state.legsIn(slot);
        int otherLegs = state.legsIn(other);
        if (legs != otherLegs) {
            return legs < otherLegs;
        }
        return isOlder(slot, other);
    }

    public int bayByWeight(int rank) throws NoSuchElementException {
        for (int bay = 0; bay < BAYS; bay++) {
            if (countHeavierBays(bay) == rank) {
                return bay;
            }
        }
        throw new NoSuchElementException();
    }

    private int countHeavierBays(int bay) {
        int weight = state.cargo.weightOfBay(bay);
        int count = 0;
        for (int other = 0; other < BAYS; other++) {
            int otherWeight = state.cargo.weightOfBay(other);
            // Among bays of the same weight, the lower index counts as heavier.
            if (otherWeight > weight || (otherWeight == weight && other < bay)) {
                count++;
            }
        }
        return count;
    }

    // ---- totals ----

    public int loadedTotal() {
        return state.tally.loaded;
    }

    public int deliveredTotal() {
        return state.tally.delivered;
    }

    public int deliveredWeight() {
        return state.tally.deliveredWeight;
    }

    public int drillTotal() {
        return state.tally.drills;
    }

    public int capsizedTotal() {
        return state.tally.capsized;
    }

    public double meanAge() throws ArithmeticException {
        int count = state.cargo.countPillows();
        if (count == 0) {
            throw new ArithmeticException();
        }
        return (double) sumOfAges() / (double) count;
    }

    private int sumOfAges() {
        int sum = 0;
        for (int slot = 0; slot < SLOTS; slot++) {
            if (state.cargo.isTaken(slot)) {
                sum += state.ageIn(slot);
            }
        }
        return sum;
    }

    public float capsizedShare() throws ArithmeticException {
        int drills = state.tally.drills;
        if (drills == 0) {
            throw new ArithmeticException();
        }
        return (float) state.tally.capsized / (float) drills;
    }

    public boolean isConsistent() {
        int moment = state.cargo.momentOfPillows();
        return moment == state.cargo.momentOfBays()
                && countPairs() == countPairsByStacks()
                && state.isWithinLimit(moment)
                && state.tally.loaded == state.tally.delivered + state.cargo.countPillows();
    }

    // ---- output text ----

    public int renderStack(int bay) throws IndexOutOfBoundsException {
        requireBay(bay);
        output.setLength(0);
        for (int position = 0; position < STACK_SIZE; position++) {
            int slot = state.cargo.slotAt(bay, position);
            if (isSlot(slot)) {
                separate();
                renderPillow(slot);
            }
        }
        return output.length();
    }

    private void renderPillow(int slot) {
        output.append(state.cargo.numberIn(slot));
        output.append('w');
        output.append(state.cargo.weightIn(slot));
        output.append('p');
        output.append(state.cargo.destinationIn(slot));
    }

    private void separate() {
        if (output.length() > 0) {
            output.append(' ');
        }
    }

    public int renderBarge() {
        output.setLength(0);
        for (int bay = 0; bay < BAYS; bay++) {
            separate();
            output.append(state.cargo.weightOfBay(bay));
        }
        output.append('=');
        output.append(state.cargo.momentOfPillows());
        return output.length();
    }

    public char outputAt(int index) throws IndexOutOfBoundsException {
        if (index < 0 || index >= output.length()) {
            throw new IndexOutOfBoundsException();
        }
        return output.charAt(index);
    }

    // ---- scripts ----

    public int type(char character) throws IllegalArgumentException, IllegalStateException {
        if (character < FIRST_CHARACTER || character > LAST_CHARACTER) {
            throw new IllegalArgumentException();
        }
        if (script.isFull()) {
            throw new IllegalStateException();
        }
        script.append(character);
        return script.length;
    }

    public int runScript() throws IllegalArgumentException, IllegalStateException {
        boolean wellFormed = script.parse();
        script.empty();
        if (!wellFormed) {
            latestErrorPosition = script.at;
            throw new IllegalArgumentException();
        }
        history.draft(state);
        int failed = performCommands();
        if (failed != NOWHERE) {
            history.takeDraftBack(state);
            latestFailedCommand = failed;
            throw new IllegalStateException();
        }
        history.keepDraft();
        return script.count;
    }

    private int performCommands() {
        for (int index = 0; index < script.count; index++) {
            int command = script.commandAt(index);
            int first = script.argumentAt(index, 0);
            int second = script.argumentAt(index, 1);
            int third = script.argumentAt(index, 2);
            if (state.faultOf(command, first, second, third) != NO_FAULT) {
                return index;
            }
            state.perform(command, first, second, third);
        }
        return NOWHERE;
    }

    public int errorPosition() throws NoSuchElementException {
        if (latestErrorPosition == NOWHERE) {
            throw new NoSuchElementException();
        }
        return latestErrorPosition;
    }

    public int failedCommand() throws NoSuchElementException {
        if (latestFailedCommand == NOWHERE) {
            throw new NoSuchElementException();
        }
        return latestFailedCommand;
    }

    // ---- undo and snapshot ----

    public int undo() throws NoSuchElementException {
        if (history.count == 0) {
            throw new NoSuchElementException();
        }
        history.takeLatestBack(state);
        return history.count;
    }

    public int save() {
        snapshot.copyFrom(state);
        hasSnapshot = true;
        return state.cargo.countPillows();
    }

    public int restore() throws IllegalStateException {
        if (!hasSnapshot) {
            throw new IllegalStateException();
        }
        state.copyFrom(snapshot);
        history.forget();
        return state.cargo.countPillows();
    }

    // ---- ranges ----

    private static boolean isBay(int bay) {
        return bay >= 0 && bay < BAYS;
    }

    private static boolean isSlot(int slot) {
        return slot >= 0 && slot < SLOTS;
    }

    private static boolean isPort(int port) {
        return port >= 0 && port < PORTS;
    }

    private static boolean isWeight(int weight) {
        return weight >= 1 && weight <= GREATEST_WEIGHT;
    }

    private static int leverArm(int bay) {
        return bay - MIDDLE_BAY;
    }

    private static void requireBay(int bay) {
        if (!isBay(bay)) {
            throw new IndexOutOfBoundsException();
        }
    }

    private static void requirePort(int port) {
        if (!isPort(port)) {
            throw new IndexOutOfBoundsException();
        }
    }

    private static void requireSlot(int slot) {
        if (!isSlot(slot)) {
            throw new NoSuchElementException();
        }
    }

    private int requirePillow(int pillow) {
        int slot = state.cargo.slotOf(pillow);
        requireSlot(slot);
        return slot;
    }

    /** The stacks. The pillow at a position of a bay has the slot bay * STACK_SIZE + position. */
    private static final class Cargo {
        private final int[] heights = new int[BAYS];
        private final int[] numbers = new int[SLOTS];
        private final int[] weights = new int[SLOTS];
        private final int[] destinations = new int[SLOTS];
        private final int[] days = new int[SLOTS];

        void copyFrom(Cargo other) {
            System.arraycopy(other.heights, 0, heights, 0, BAYS);
            System.arraycopy(other.numbers, 0, numbers, 0, SLOTS);
            System.arraycopy(other.weights, 0, weights, 0, SLOTS);
            System.arraycopy(other.destinations, 0, destinations, 0, SLOTS);
            System.arraycopy(other.days, 0, days, 0, SLOTS);
        }

        int heightOf(int bay) {
            return isBay(bay) ? heights[bay] : 0;
        }

        boolean isTaken(int slot) {
            return slot >= 0 && slot < SLOTS && slot % STACK_SIZE < heights[slot / STACK_SIZE];
        }

        int slotAt(int bay, int position) {
            if (!isBay(bay) || position < 0 || position >= STACK_SIZE) {
                return NOWHERE;
            }
            int slot = bay * STACK_SIZE + position;
            return isTaken(slot) ? slot : NOWHERE;
        }

        int topSlot(int bay) {
            return slotAt(bay, heightOf(bay) - 1);
        }

        int slotOf(int number) {
            for (int slot = 0; slot < SLOTS; slot++) {
                if (isTaken(slot) && numbers[slot] == number) {
                    return slot;
                }
            }
            return NOWHERE;
        }

        int numberIn(int slot) {
            return isSlot(slot) ? numbers[slot] : 0;
        }

        int weightIn(int slot) {
            return isSlot(slot) ? weights[slot] : 0;
        }

        int destinationIn(int slot) {
            return isSlot(slot) ? destinations[slot] : 0;
        }

        int dayIn(int slot) {
            return isSlot(slot) ? days[slot] : 0;
        }

        int countPillows() {
            int count = 0;
            for (int bay = 0; bay < BAYS; bay++) {
                count += heights[bay];
            }
            return count;
        }

        int weightOfAll() {
            int sum = 0;
            for (int slot = 0; slot < SLOTS; slot++) {
                if (isTaken(slot)) {
                    sum += weights[slot];
                }
            }
            return sum;
        }

        int weightForPort(int port) {
            int sum = 0;
            for (int slot = 0; slot < SLOTS; slot++) {
                if (isTaken(slot) && destinations[slot] == port) {
                    sum += weights[slot];
                }
            }
            return sum;
        }

        int weightOfBay(int bay) {
            int sum = 0;
            for (int position = 0; position < STACK_SIZE; position++) {
                int slot = slotAt(bay, position);
                if (isSlot(slot)) {
                    sum += weights[slot];
                }
            }
            return sum;
        }

        int momentOfPillows() {
            int sum = 0;
            for (int slot = 0; slot < SLOTS; slot++) {
                if (isTaken(slot)) {
                    sum += weights[slot] * leverArm(slot / STACK_SIZE);
                }
            }
            return sum;
        }

        int momentOfBays() {
            int sum = 0;
            for (int bay = 0; bay < BAYS; bay++) {
                sum += weightOfBay(bay) * leverArm(bay);
            }
            return sum;
        }

        void put(int bay, int number, int weight, int destination, int day) {
            int height = heightOf(bay);
            int slot = bay * STACK_SIZE + height;
            if (isBay(bay) && height < STACK_SIZE && isSlot(slot)) {
                numbers[slot] = number;
                weights[slot] = weight;
                destinations[slot] = destination;
                days[slot] = day;
                heights[bay] = height + 1;
            }
        }

        void removeTop(int bay) {
            if (isBay(bay) && heights[bay] > 0) {
                heights[bay]--;
            }
        }
    }

    /** Where the barge is and which way it goes. */
    private static final class Voyage {
        private int port;
        private int day;
        private boolean ascending = true;

        void copyFrom(Voyage other) {
            port = other.port;
            day = other.day;
            ascending = other.ascending;
        }

        int countLegsTo(int target) {
            return Math.floorMod(ascending ? target - port : port - target, PORTS);
        }

        int portIn(int legs) {
            return Math.floorMod(ascending ? port + legs : port - legs, PORTS);
        }

        void advance(int legs) {
            port = portIn(legs);
            day += legs;
        }

        void reverse() {
            ascending = !ascending;
        }
    }

    /** What has been done so far. The number of the next pillow is the number of those loaded. */
    private static final class Tally {
        private int loaded;
        private int delivered;
        private int deliveredWeight;
        private int drills;
        private int capsized;

        void copyFrom(Tally other) {
            loaded = other.loaded;
            delivered = other.delivered;
            deliveredWeight = other.deliveredWeight;
            drills = other.drills;
            capsized = other.capsized;
        }
    }

    /** All that undo and the snapshot cover, with the commands that change it. */
    private static final class State {
        private final Cargo cargo = new Cargo();
        private final Voyage voyage = new Voyage();
        private final Tally tally = new Tally();
        private int limit = FIRST_LIMIT;

        void copyFrom(State other) {
            cargo.copyFrom(other.cargo);
            voyage.copyFrom(other.voyage);
            tally.copyFrom(other.tally);
            limit = other.limit;
        }

        boolean isWithinLimit(int moment) {
            return Math.abs(moment) <= limit;
        }

        int legsIn(int slot) {
            return voyage.countLegsTo(cargo.destinationIn(slot));
        }

        int ageIn(int slot) {
            return voyage.day - cargo.dayIn(slot);
        }

        int faultOf(int command, int first, int second, int third) {
            switch (command) {
                case LOAD:
                    return faultOfLoad(first, second, third);
                case UNLOAD:
                    return faultOfUnload(first);
                case SHIFT:
                    return faultOfShift(first, second);
                case SAIL:
                    return first < 1 || first > GREATEST_SAIL ? BAD_ARGUMENT : NO_FAULT;
                case LIMIT:
                    return faultOfLimit(first);
                case DRILL:
                    return first < -GREATEST_PUSH || first > GREATEST_PUSH ? BAD_ARGUMENT : NO_FAULT;
                default:
                    return NO_FAULT;
            }
        }

        int faultOfLoad(int bay, int weight, int destination) {
            if (!isBay(bay)) {
                return NO_SUCH_INDEX;
            }
            if (!isWeight(weight) || !isPort(destination)) {
                return BAD_ARGUMENT;
            }
            if (cargo.heightOf(bay) >= STACK_SIZE) {
                return BAD_STATE;
            }
            return faultOfMoment(weight * leverArm(bay));
        }

        int faultOfUnload(int bay) {
            if (!isBay(bay)) {
                return NO_SUCH_INDEX;
            }
            int top = cargo.topSlot(bay);
            if (!isSlot(top)) {
                return NO_SUCH_ELEMENT;
            }
            if (cargo.destinationIn(top) != voyage.port) {
                return BAD_STATE;
            }
            return faultOfMoment(-cargo.weightIn(top) * leverArm(bay));
        }

        int faultOfShift(int from, int to) {
            if (!isBay(from) || !isBay(to)) {
                return NO_SUCH_INDEX;
            }
            if (from == to) {
                return BAD_ARGUMENT;
            }
            int top = cargo.topSlot(from);
            if (!isSlot(top)) {
                return NO_SUCH_ELEMENT;
            }
            if (cargo.heightOf(to) >= STACK_SIZE) {
                return BAD_STATE;
            }
            return faultOfMoment(cargo.weightIn(top) * (leverArm(to) - leverArm(from)));
        }

        private int faultOfMoment(int added) {
            return isWithinLimit(cargo.momentOfPillows() + added) ? NO_FAULT : OUT_OF_BALANCE;
        }

        private int faultOfLimit(int newLimit) {
            if (newLimit < LEAST_LIMIT || newLimit > GREATEST_LIMIT) {
                return BAD_ARGUMENT;
            }
            return Math.abs(cargo.momentOfPillows()) > newLimit ? OUT_OF_BALANCE : NO_FAULT;
        }

        /** Carries out a command without a fault and answers what its method does, 1 for true. */
        int perform(int command, int first, int second, int third) {
            switch (command) {
                case LOAD:
                    return addPillow(first, second, third);
                case UNLOAD:
                    return deliverTop(first);
                case SHIFT:
                    return moveTop(first, second);
                case SAIL:
                    voyage.advance(first);
                    return voyage.port;
                case TURN:
                    voyage.reverse();
                    return voyage.ascending ? 1 : 0;
                case LIMIT:
                    return replaceLimit(first);
                case DRILL:
                    return practise(first) ? 1 : 0;
                default:
                    return 0;
            }
        }

        private int addPillow(int bay, int weight, int destination) {
            int number = tally.loaded;
            cargo.put(bay, number, weight, destination, voyage.day);
            tally.loaded++;
            return number;
        }

        private int deliverTop(int bay) {
            int top = cargo.topSlot(bay);
            int number = cargo.numberIn(top);
            tally.delivered++;
            tally.deliveredWeight += cargo.weightIn(top);
            cargo.removeTop(bay);
            return number;
        }

        private int moveTop(int from, int to) {
            int top = cargo.topSlot(from);
            int number = cargo.numberIn(top);
            cargo.put(to, number, cargo.weightIn(top), cargo.destinationIn(top), cargo.dayIn(top));
            cargo.removeTop(from);
            return number;
        }

        private int replaceLimit(int newLimit) {
            int previous = limit;
            limit = newLimit;
            return previous;
        }

        private boolean practise(int push) {
            boolean capsizes = !isWithinLimit(cargo.momentOfPillows() + push);
            tally.drills++;
            if (capsizes) {
                tally.capsized++;
            }
            return capsizes;
        }
    }

    /** The states before the latest changes, in a ring with one place more than can be undone. */
    private static final class History {
        private static final int PLACES = UNDOABLE_CHANGES + 1;

        private final State[] places = new State[PLACES];
        private int next;
        private int count;

        History() {
            for (int place = 0; place < PLACES; place++) {
                places[place] = new State();
            }
        }

        // The spare place takes the draft, so a script that fails costs no older state.
        void draft(State state) {
            State place = placeAt(next);
            if (place != null) {
                place.copyFrom(state);
            }
        }

        void keepDraft() {
            next = Math.floorMod(next + 1, PLACES);
            count = Math.min(count + 1, UNDOABLE_CHANGES);
        }

        void takeDraftBack(State state) {
            State place = placeAt(next);
            if (place != null) {
                state.copyFrom(place);
            }
        }

        void takeLatestBack(State state) {
            next = Math.floorMod(next - 1, PLACES);
            count--;
            takeDraftBack(state);
        }

        void forget() {
            count = 0;
        }

        private State placeAt(int place) {
            return place >= 0 && place < PLACES ? places[place] : null;
        }
    }

    /** The script buffer, and the commands of the text that was parsed last. */
    private static final class Script {
        private static final int SIZE = 60;
        private static final int SHORTEST_COMMAND = 4;
        private static final int MOST_COMMANDS = SIZE / SHORTEST_COMMAND;
        private static final int ARGUMENTS = 3;
        private static final int NO_DIGIT = -1;

        private final char[] characters = new char[SIZE];
        private final int[] commands = new int[MOST_COMMANDS];
        private final int[] arguments = new int[MOST_COMMANDS * ARGUMENTS];
        private int length;
        private int count;
        private int at;

        boolean isFull() {
            return length >= SIZE;
        }

        void append(char character) {
            if (length >= 0 && length < SIZE) {
                characters[length] = character;
                length++;
            }
        }

        void empty() {
            length = 0;
        }

        int commandAt(int index) {
            return index >= 0 && index < MOST_COMMANDS ? commands[index] : COMMANDS;
        }

        int argumentAt(int index, int argument) {
            int place = index * ARGUMENTS + argument;
            return place >= 0 && place < arguments.length ? arguments[place] : 0;
        }

        // No reader below passes a character that no script can have there,
        // so when one of them answers false, the error position is at.
        boolean parse() {
            at = 0;
            count = 0;
            while (count < MOST_COMMANDS) {
                if (!readCommand()) {
                    return false;
                }
                count++;
                if (!accept(';')) {
                    return at == length;
                }
            }
            return false;
        }

        private boolean readCommand() {
            int command = readKeyword();
            if (count >= 0 && count < MOST_COMMANDS) {
                commands[count] = command;
            }
            switch (command) {
                case LOAD:
                    return readDigit(0) && accept(' ') && readNumber(1) && accept(' ') && readDigit(2);
                case UNLOAD:
                    return readDigit(0);
                case SHIFT:
                    return readDigit(0) && accept(' ') && readDigit(1);
                case SAIL:
                    setArgument(0, 1);
                    return !accept(' ') || readNumber(0);
                case TURN:
                    return true;
                case LIMIT:
                    return readNumber(0);
                case DRILL:
                    return readSignedNumber(0);
                default:
                    return false;
            }
        }

        private static String keywordOf(int command) {
            switch (command) {
                case LOAD:
                    return "load ";
                case UNLOAD:
                    return "unload ";
                case SHIFT:
                    return "shift ";
                case SAIL:
                    return "sail";
                case TURN:
                    return "turn";
                case LIMIT:
                    return "limit ";
                default:
                    return "drill ";
            }
        }

        private int readKeyword() {
            int longest = 0;
            for (int command = 0; command < COMMANDS; command++) {
                String keyword = keywordOf(command);
                int matching = countMatching(keyword);
                if (matching == keyword.length()) {
                    at += matching;
                    return command;
                }
                longest = Math.max(longest, matching);
            }
            at += longest;
            return COMMANDS;
        }

        private int countMatching(String keyword) {
            int matching = 0;
            while (matching < keyword.length() && isNext(matching, keyword.charAt(matching))) {
                matching++;
            }
            return matching;
        }

        private boolean isNext(int ahead, char character) {
            int index = at + ahead;
            return index >= 0 && index < length && index < SIZE && characters[index] == character;
        }

        private boolean accept(char character) {
            boolean accepted = isNext(0, character);
            if (accepted) {
                at++;
            }
            return accepted;
        }

        private boolean readDigit(int argument) {
            int digit = takeDigit();
            setArgument(argument, digit);
            return digit != NO_DIGIT;
        }

        private boolean readNumber(int argument) {
            int first = takeDigit();
            if (first == NO_DIGIT) {
                return false;
            }
            int second = takeDigit();
            setArgument(argument, second == NO_DIGIT ? first : first * 10 + second);
            return true;
        }

        private boolean readSignedNumber(int argument) {
            boolean negative = accept('-');
            boolean read = readNumber(argument);
            if (read && negative) {
                setArgument(argument, -argumentAt(count, argument));
            }
            return read;
        }

        private int takeDigit() {
            if (at < 0 || at >= length || at >= SIZE) {
                return NO_DIGIT;
            }
            char character = characters[at];
            if (character < '0' || character > '9') {
                return NO_DIGIT;
            }
            at++;
            return character - '0';
        }

        private void setArgument(int argument, int value) {
            int place = count * ARGUMENTS + argument;
            if (place >= 0 && place < arguments.length) {
                arguments[place] = value;
            }
        }
    }
}
