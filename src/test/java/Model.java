import java.util.ArrayDeque;
import java.util.ArrayList;
import java.util.Comparator;
import java.util.Deque;
import java.util.List;
import java.util.NoSuchElementException;
import java.util.regex.Matcher;
import java.util.regex.Pattern;
import java.util.stream.IntStream;

/** The barge of the document once more, written from its words in the shortest way. */
final class Model {
    private static final Pattern SCRIPT = Pattern.compile("(C)(;(C))*".replace("C",
            "load \\d \\d\\d? \\d|unload \\d|shift \\d \\d|sail( \\d\\d?)?|turn|limit \\d\\d?|drill -?\\d\\d?"));

    private static final class Pillow {
        final int number;
        final int weight;
        final int destination;
        final int day;

        Pillow(int number, int weight, int destination, int day) {
            this.number = number;
            this.weight = weight;
            this.destination = destination;
            this.day = day;
        }
    }

    private static final class State {
        final List<List<Pillow>> stacks = new ArrayList<>();
        int port = 0;
        int day = 0;
        boolean ascending = true;
        int limit = 60;
        int loaded = 0;
        int delivered = 0;
        int deliveredWeight = 0;
        int drills = 0;
        int capsized = 0;

        State() {
            for (int bay = 0; bay < 7; bay++) {
                stacks.add(new ArrayList<>());
            }
        }

        State copy() {
            State copy = new State();
            for (int bay = 0; bay < 7; bay++) {
                copy.stacks.get(bay).addAll(stacks.get(bay));
            }
            copy.port = port;
            copy.day = day;
            copy.ascending = ascending;
            copy.limit = limit;
            copy.loaded = loaded;
            copy.delivered = delivered;
            copy.deliveredWeight = deliveredWeight;
            copy.drills = drills;
            copy.capsized = capsized;
            return copy;
        }
    }

    private State s = new State();
    private State snapshot = null;
    private Deque<State> undo = new ArrayDeque<>();
    private String script = "";
    private String output = "";
    private Integer errorPosition = null;
    private Integer failedCommand = null;

    private static void when(boolean bad, RuntimeException exception) {
        if (bad) {
            throw exception;
        }
    }

    private static RuntimeException index() {
        return new IndexOutOfBoundsException();
    }

    private static RuntimeException argument() {
        return new IllegalArgumentException();
    }

    private static RuntimeException illegalState() {
        return new IllegalStateException();
    }

    private static RuntimeException balance() {
        return new UnsupportedOperationException();
    }

    private static RuntimeException element() {
        return new NoSuchElementException();
    }

    private static boolean in(int number, int least, int greatest) {
        return least <= number && number <= greatest;
    }

    private void change(Runnable effect) {
        State before = s.copy();
        effect.run();
        undo.addLast(before);
        if (undo.size() > 8) {
            undo.removeFirst();
        }
    }

    private List<Pillow> stack(int bay) {
        return s.stacks.get(bay);
    }

    private Pillow top(int bay) {
        return stack(bay).get(stack(bay).size() - 1);
    }

    private List<Pillow> pillows() {
        List<Pillow> all = new ArrayList<>();
        s.stacks.forEach(all::addAll);
        return all;
    }

    private int bayOfPillow(Pillow pillow) {
        return IntStream.range(0, 7).filter(bay -> stack(bay).contains(pillow)).findFirst().getAsInt();
    }

    private Pillow find(int number) {
        return pillows().stream().filter(p -> p.number == number).findFirst().orElseThrow(Model::element);
    }

    private boolean tooMuch(int moment) {
        return moment > s.limit || moment < -s.limit;
    }

    int load(int bay, int weight, int destination) {
        when(!in(bay, 0, 6), index());
        when(!in(weight, 1, 20) || !in(destination, 0, 4), argument());
        when(stack(bay).size() == 5, illegalState());
        when(tooMuch(moment() + weight * (bay - 3)), balance());
        change(() -> stack(bay).add(new Pillow(s.loaded++, weight, destination, s.day)));
        return s.loaded - 1;
    }

    int unload(int bay) {
        when(!in(bay, 0, 6), index());
        when(stack(bay).isEmpty(), element());
        Pillow pillow = top(bay);
        when(pillow.destination != s.port, illegalState());
        when(tooMuch(moment() - pillow.weight * (bay - 3)), balance());
        change(() -> {
            stack(bay).remove(pillow);
            s.delivered++;
            s.deliveredWeight += pillow.weight;
        });
        return pillow.number;
    }

    int shift(int from, int to) {
        when(!in(from, 0, 6) || !in(to, 0, 6), index());
        when(from == to, argument());
        when(stack(from).isEmpty(), element());
        when(stack(to).size() == 5, illegalState());
        Pillow pillow = top(from);
        when(tooMuch(moment() - pillow.weight * (from - 3) + pillow.weight * (to - 3)), balance());
        change(() -> {
            stack(from).remove(pillow);
            stack(to).add(pillow);
        });
        return pillow.number;
    }

    int sail(int legs) {
        when(!in(legs, 1, 20), argument());
        change(() -> {
            for (int leg = 0; leg < legs; leg++) {
                s.port = nextPort(s.port);
                s.day++;
            }
        });
        return s.port;
    }

    private int nextPort(int port) {
        return (port + (s.ascending ? 1 : 4)) % 5;
    }

    boolean turn() {
        change(() -> s.ascending = !s.ascending);
        return s.ascending;
    }

    int setLimit(int limit) {
        when(!in(limit, 10, 99), argument());
        when(Math.abs(moment()) > limit, balance());
        int previous = s.limit;
        change(() -> s.limit = limit);
        return previous;
    }

    boolean drill(int push) {
        when(!in(push, -99, 99), argument());
        boolean capsizes = tooMuch(moment() + push);
        change(() -> {
            s.drills++;
            s.capsized += capsizes ? 1 : 0;
        });
        return capsizes;
    }

    int pillowCount() {
        return pillows().size();
    }

    int stackHeight(int bay) {
        when(!in(bay, 0, 6), index());
        return stack(bay).size();
    }

    int pillowAt(int bay, int position) {
        when(!in(bay, 0, 6), index());
        when(!in(position, 0, stack(bay).size() - 1), element());
        return stack(bay).get(position).number;
    }

    int weightOf(int pillow) {
        return find(pillow).weight;
    }

    int destinationOf(int pillow) {
        return find(pillow).destination;
    }

    int bayOf(int pillow) {
        return bayOfPillow(find(pillow));
    }

    int positionOf(int pillow) {
        Pillow found = find(pillow);
        return stack(bayOfPillow(found)).indexOf(found);
    }

    int ageOf(int pillow) {
        return s.day - find(pillow).day;
    }

    int moment() {
        int sum = 0;
        for (int bay = 0; bay < 7; bay++) {
            for (Pillow pillow : stack(bay)) {
                sum += pillow.weight * (bay - 3);
            }
        }
        return sum;
    }

    int totalWeight() {
        return pillows().stream().mapToInt(p -> p.weight).sum();
    }

    int weightFor(int port) {
        when(!in(port, 0, 4), index());
        return pillows().stream().filter(p -> p.destination == port).mapToInt(p -> p.weight).sum();
    }

    int limit() {
        return s.limit;
    }

    float listAngle() {
        return 45.0f * moment() / (totalWeight() + 40);
    }

    int greatestPush() {
        int push = 1000;
        while (tooMuch(moment() + push)) {
            push--;
        }
        return push;
    }

    int levelingBay(int weight) {
        when(!in(weight, 1, 20), argument());
        return IntStream.range(0, 7).boxed()
                .filter(bay -> stack(bay).size() < 5 && !tooMuch(moment() + weight * (bay - 3)))
                .min(Comparator.comparing((Integer bay) -> Math.abs(moment() + weight * (bay - 3)))
                        .thenComparing(bay -> stack(bay).size()))
                .orElseThrow(Model::element);
    }

    int port() {
        return s.port;
    }

    int day() {
        return s.day;
    }

    boolean isAscending() {
        return s.ascending;
    }

    int legsTo(int port) {
        when(!in(port, 0, 4), index());
        int legs = 0;
        for (int at = s.port; at != port; at = nextPort(at)) {
            legs++;
        }
        return legs;
    }

    int portAfter(int legs) {
        when(!in(legs, 0, 99), argument());
        int at = s.port;
        for (int leg = 0; leg < legs; leg++) {
            at = nextPort(at);
        }
        return at;
    }

    int pillowsInTheWay(int pillow) {
        Pillow lower = find(pillow);
        List<Pillow> stack = stack(bayOfPillow(lower));
        return (int) stack.stream().skip(stack.indexOf(lower) + 1)
                .filter(upper -> legsTo(upper.destination) > legsTo(lower.destination)).count();
    }

    int pairsInTheWay() {
        return pillows().stream().mapToInt(p -> pillowsInTheWay(p.number)).sum();
    }

    private boolean works(Runnable call) {
        State before = s.copy();
        Deque<State> undoBefore = new ArrayDeque<>(undo);
        try {
            call.run();
            return true;
        } catch (RuntimeException refused) {
            return false;
        } finally {
            s = before;
            undo = undoBefore;
        }
    }

    int unloadableCount() {
        return (int) IntStream.range(0, 7).filter(bay -> works(() -> unload(bay))).count();
    }

    int oldestIn(int bay) {
        when(!in(bay, 0, 6), index());
        return stack(bay).stream()
                .min(Comparator.comparing((Pillow p) -> p.day).thenComparing(p -> p.number))
                .orElseThrow(Model::element).number;
    }

    int heaviestPort() {
        when(pillows().isEmpty(), element());
        return IntStream.range(0, 5).boxed()
                .min(Comparator.comparing((Integer port) -> -weightFor(port)).thenComparing(this::legsTo)).get();
    }

    int possibleShifts() {
        return (int) IntStream.range(0, 49).filter(pair -> works(() -> shift(pair / 7, pair % 7))).count();
    }

    int pillowByTurn(int rank) {
        List<Pillow> sorted = pillows();
        sorted.sort(Comparator.comparing((Pillow p) -> legsTo(p.destination))
                .thenComparing(p -> p.day).thenComparing(p -> p.number));
        when(!in(rank, 0, sorted.size() - 1), element());
        return sorted.get(rank).number;
    }

    private int bayWeight(int bay) {
        return stack(bay).stream().mapToInt(p -> p.weight).sum();
    }

    int bayByWeight(int rank) {
        when(!in(rank, 0, 6), element());
        return IntStream.range(0, 7).boxed().sorted(Comparator.comparing(bay -> -bayWeight(bay)))
                .skip(rank).findFirst().get();
    }

    int loadedTotal() {
        return s.loaded;
    }

    int deliveredTotal() {
        return s.delivered;
    }

    int deliveredWeight() {
        return s.deliveredWeight;
    }

    int drillTotal() {
        return s.drills;
    }

    int capsizedTotal() {
        return s.capsized;
    }

    double meanAge() {
        when(pillows().isEmpty(), new ArithmeticException());
        return (double) pillows().stream().mapToInt(p -> s.day - p.day).sum() / (double) pillows().size();
    }

    float capsizedShare() {
        when(s.drills == 0, new ArithmeticException());
        return (float) s.capsized / (float) s.drills;
    }

    int renderStack(int bay) {
        when(!in(bay, 0, 6), index());
        output = "";
        for (Pillow pillow : stack(bay)) {
            output += " " + pillow.number + "w" + pillow.weight + "p" + pillow.destination;
        }
        output = output.trim();
        return output.length();
    }

    int renderBarge() {
        output = "";
        for (int bay = 0; bay < 7; bay++) {
            output += " " + bayWeight(bay);
        }
        output = output.trim() + "=" + moment();
        return output.length();
    }

    char outputAt(int at) {
        when(!in(at, 0, output.length() - 1), index());
        return output.charAt(at);
    }

    int type(char character) {
        when(!in(character, 32, 126), argument());
        when(script.length() == 60, illegalState());
        script += character;
        return script.length();
    }

    /** How many characters of the text can begin a script. */
    private static int beginning(String text) {
        for (int length = 1; length <= text.length(); length++) {
            Matcher matcher = SCRIPT.matcher(text.substring(0, length));
            if (!matcher.matches() && !matcher.hitEnd()) {
                return length - 1;
            }
        }
        return text.length();
    }

    int runScript() {
        String text = script;
        script = "";
        if (!SCRIPT.matcher(text).matches()) {
            errorPosition = beginning(text);
            throw argument();
        }
        State before = s.copy();
        Deque<State> undoBefore = new ArrayDeque<>(undo);
        String[] commands = text.split(";");
        for (int at = 0; at < commands.length; at++) {
            try {
                run(commands[at].split(" "));
            } catch (RuntimeException refused) {
                s = before;
                undo = undoBefore;
                failedCommand = at;
                throw illegalState();
            }
        }
        State after = s;
        s = before;
        undo = undoBefore;
        change(() -> s = after);
        return commands.length;
    }

    private void run(String[] words) {
        int[] n = new int[words.length];
        for (int at = 1; at < words.length; at++) {
            n[at] = Integer.parseInt(words[at]);
        }
        switch (words[0]) {
            case "load" -> load(n[1], n[2], n[3]);
            case "unload" -> unload(n[1]);
            case "shift" -> shift(n[1], n[2]);
            case "sail" -> sail(words.length == 1 ? 1 : n[1]);
            case "turn" -> turn();
            case "limit" -> setLimit(n[1]);
            default -> drill(n[1]);
        }
    }

    int errorPosition() {
        when(errorPosition == null, element());
        return errorPosition;
    }

    int failedCommand() {
        when(failedCommand == null, element());
        return failedCommand;
    }

    int undo() {
        when(undo.isEmpty(), element());
        s = undo.removeLast();
        return undo.size();
    }

    int save() {
        snapshot = s.copy();
        return pillowCount();
    }

    int restore() {
        when(snapshot == null, illegalState());
        s = snapshot.copy();
        undo.clear();
        return pillowCount();
    }
}
