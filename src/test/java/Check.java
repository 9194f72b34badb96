import java.util.NoSuchElementException;

/** What the tests share: it compares answers, counts the wrong ones and ends the program. */
class Check {
    static final Class<IndexOutOfBoundsException> INDEX = IndexOutOfBoundsException.class;
    static final Class<IllegalArgumentException> ARGUMENT = IllegalArgumentException.class;
    static final Class<IllegalStateException> STATE = IllegalStateException.class;
    static final Class<UnsupportedOperationException> BALANCE = UnsupportedOperationException.class;
    static final Class<NoSuchElementException> ELEMENT = NoSuchElementException.class;
    static final Class<ArithmeticException> ARITHMETIC = ArithmeticException.class;

    static final int[] NO_BAYS = {-1, 7, 8, 34, 35, 99, Integer.MIN_VALUE, Integer.MAX_VALUE};
    static final int[] NO_PORTS = {-1, 5, 6, 99, Integer.MIN_VALUE, Integer.MAX_VALUE};
    static final int[] NO_WEIGHTS = {-1, 0, 21, Integer.MIN_VALUE, Integer.MAX_VALUE};

    interface Call {
        Object answer();
    }

    private static int checks = 0;
    private static int wrong = 0;

    /** The answer of a call, or the text "throws." and the class of the exception that it throws. */
    static Object outcome(Call call) {
        try {
            return call.answer();
        } catch (RuntimeException thrown) {
            return "throws." + thrown.getClass().getSimpleName() + thrownByMachine(thrown);
        }
    }

    // The class throws without a message. A message tells that the machine threw.
    private static String thrownByMachine(RuntimeException thrown) {
        return thrown.getMessage() == null ? "" : " by the machine: " + thrown.getMessage();
    }

    static void due(String what, Object got, Object want) {
        checks++;
        if (!want.equals(got)) {
            wrong++;
            System.out.println(what + " answered " + got + ", due is " + want);
        }
    }

    static void dueThrow(String what, Class<? extends RuntimeException> want, Call call) {
        due(what, outcome(call), "throws." + want.getSimpleName());
    }

    static int wrongSoFar() {
        return wrong;
    }

    static void end(String test) {
        System.out.println(test + ": " + checks + " checks, " + wrong + " wrong");
        if (wrong != 0) {
            System.exit(1);
        }
    }

    /** Types the text, of which every character must find room. */
    static void type(PillowBarge barge, String text) {
        for (int index = 0; index < text.length(); index++) {
            barge.type(text.charAt(index));
        }
    }

    static int runScript(PillowBarge barge, String text) {
        type(barge, text);
        return barge.runScript();
    }

    /** The whole output text, of which the length is told. */
    static String output(PillowBarge barge, int length) {
        StringBuilder text = new StringBuilder();
        for (int index = 0; index < length; index++) {
            text.append(barge.outputAt(index));
        }
        dueThrow("outputAt behind the end", INDEX, () -> barge.outputAt(length));
        return text.toString();
    }
}
