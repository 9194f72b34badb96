import java.util.HashMap;
import java.util.Map;
import java.util.function.Consumer;

/** What the tests of single sentences share: says() takes a sentence, and what follows is told under it. */
class Sentences extends Check {
    interface Calls extends Consumer<PillowBarge> {
        default Calls then(Calls next) {
            return b -> {
                accept(b);
                next.accept(b);
            };
        }
    }

    interface Ask {
        Object of(PillowBarge b);
    }

    static final Calls EMPTY = b -> { };
    static final Calls BUSY = b -> makeBusy(b);

    private static final Document DOCUMENT = new Document();
    private static final Map<Calls, String> PROBED = new HashMap<>();
    private static String sentence = "";

    static void terms(String beginning) {
        says(0, beginning);
    }

    static void says(int promise, String... beginnings) {
        sentence = promise + " " + beginnings[0];
        for (String beginning : beginnings) {
            if (!DOCUMENT.markTested(promise, beginning)) {
                due("the document's sentence '" + promise + " " + beginning + "'", "none", "one");
            }
        }
    }

    static void everySentenceIsTested() {
        due("sentences of the document", DOCUMENT.size() > 150, true);
        for (String untested : DOCUMENT.untested()) {
            due("the sentence '" + untested + "'", "has no test", "has one");
        }
    }

    static void holds(String detail, Object got, Object want) {
        due(sentence + " | " + detail, got, want);
    }

    /** A new object on which the calls have been made. */
    static PillowBarge made(Calls calls) {
        PillowBarge b = new PillowBarge();
        calls.accept(b);
        return b;
    }

    static void answers(String detail, Object want, Calls before, Ask call) {
        PillowBarge b = made(before);
        holds(detail, outcome(() -> call.of(b)), want);
    }

    /** The call throws the exception and changes nothing. */
    static void refuses(String detail, Class<? extends RuntimeException> exception, Calls before, Ask call) {
        answers(detail, "throws." + exception.getSimpleName(), before, call);
        String due = PROBED.computeIfAbsent(before, calls -> Probe.everything(calls));
        String got = Probe.everything(before.then(b -> outcome(() -> call.of(b))));
        holds(detail + " changes nothing", got, due);
    }

    static void refusesIndex(String detail, Calls before, Ask call) {
        refuses(detail, INDEX, before, call);
    }

    static void refusesArgument(String detail, Calls before, Ask call) {
        refuses(detail, ARGUMENT, before, call);
    }

    static void refusesState(String detail, Calls before, Ask call) {
        refuses(detail, STATE, before, call);
    }

    static void refusesBalance(String detail, Calls before, Ask call) {
        refuses(detail, BALANCE, before, call);
    }

    static void refusesElement(String detail, Calls before, Ask call) {
        refuses(detail, ELEMENT, before, call);
    }

    static void refusesArithmetic(String detail, Calls before, Ask call) {
        refuses(detail, ARITHMETIC, before, call);
    }

    /** Pillows of weight 1 for port 0 on top of a stack. */
    static Calls stack(int bay, int pillows) {
        return b -> {
            for (int pillow = 0; pillow < pillows; pillow++) {
                b.load(bay, 1, 0);
            }
        };
    }

    /** 35 pillows of weight 1; pillow p lies in bay p % 7. */
    static Calls full() {
        return b -> {
            for (int pillow = 0; pillow < 35; pillow++) {
                b.load(pillow % 7, 1, 0);
            }
        };
    }

    /** Adds to the moment by pillows for port 4: up to two in an outer bay and one in bay 2 or 4. */
    static Calls tilt(int added) {
        int side = added < 0 ? -1 : 1;
        int outer = Math.abs(added) / 3;
        int inner = Math.abs(added) % 3;
        return b -> {
            for (int left = outer; left > 0; left -= 20) {
                b.load(3 + 3 * side, Math.min(left, 20), 4);
            }
            if (inner > 0) {
                b.load(3 + side, inner, 4);
            }
        };
    }

    static Calls limit(int limit) {
        return b -> b.setLimit(limit);
    }

    /** A barge with this moment and then this limit. */
    static Calls tilted(int moment, int limit) {
        return limit(99).then(tilt(moment)).then(limit(limit));
    }

    static Calls script(String text) {
        return b -> type(b, text);
    }

    /** The changes so far can't be undone any more. */
    static final Calls FORGET = b -> {
        b.save();
        b.restore();
    };

    /** Every part of an object holds something, and eight changes can be undone. */
    private static void makeBusy(PillowBarge b) {
        b.load(2, 5, 1);
        b.load(2, 4, 2);
        b.load(4, 3, 0);
        b.load(0, 2, 3);
        b.load(0, 1, 4);
        b.unload(4);
        b.sail(2);
        b.save();
        b.drill(99);
        b.drill(-3);
        b.setLimit(50);
        b.shift(0, 6);
        b.turn();
        b.load(6, 7, 2);
        runScript(b, "load 5 1 0;unload 6;sail 6");
        outcome(() -> runScript(b, "turn;tur"));
        outcome(() -> runScript(b, "turn;sail 0"));
        b.renderStack(2);
        type(b, "sail 3;turn");
    }
}
