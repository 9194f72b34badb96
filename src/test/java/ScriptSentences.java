/** The sentences about scripts: their form, their commands, and promises 51 to 53. */
final class ScriptSentences extends Sentences {
    private static final String DIGITS = "0123456789";
    private static final String FIRSTS = "lustd";

    /** A beginning of a script, the characters that can continue it, and "end" if it can end there. */
    private static final String[][] BEGINNINGS = {
        {"", FIRSTS},
        {"l", "oi"}, {"lo", "a"}, {"loa", "d"}, {"load", " "}, {"load ", DIGITS}, {"load 4", " "},
        {"load 4 ", DIGITS}, {"load 4 1", DIGITS + " "}, {"load 4 12", " "}, {"load 4 1 ", DIGITS},
        {"load 4 12 ", DIGITS}, {"load 4 12 3", ";", "end"}, {"load 4 1 0", ";", "end"},
        {"u", "n"}, {"un", "l"}, {"unl", "o"}, {"unlo", "a"}, {"unloa", "d"}, {"unload", " "},
        {"unload ", DIGITS}, {"unload 9", ";", "end"},
        {"s", "ha"}, {"sh", "i"}, {"shi", "f"}, {"shif", "t"}, {"shift", " "}, {"shift ", DIGITS},
        {"shift 0", " "}, {"shift 0 ", DIGITS}, {"shift 0 9", ";", "end"},
        {"sa", "i"}, {"sai", "l"}, {"sail", " ;", "end"}, {"sail ", DIGITS},
        {"sail 0", DIGITS + ";", "end"}, {"sail 9", DIGITS + ";", "end"}, {"sail 99", ";", "end"},
        {"t", "u"}, {"tu", "r"}, {"tur", "n"}, {"turn", ";", "end"},
        {"li", "m"}, {"lim", "i"}, {"limi", "t"}, {"limit", " "}, {"limit ", DIGITS},
        {"limit 7", DIGITS + ";", "end"}, {"limit 07", ";", "end"},
        {"d", "r"}, {"dr", "i"}, {"dri", "l"}, {"dril", "l"}, {"drill", " "}, {"drill ", DIGITS + "-"},
        {"drill -", DIGITS}, {"drill -0", DIGITS + ";", "end"}, {"drill -99", ";", "end"},
        {"drill 5", DIGITS + ";", "end"}, {"drill 55", ";", "end"},
    };

    private static final String[] LEADS = {"", "turn;", "sail 2;drill -4;load 1 2 3;limit 7;"};

    /** A script of 60 characters and six commands. */
    private static final String FULL = "load 3 20 0;load 3 20 0;load 3 20 0;load 3 20 0;turn;sail 10";

    private static final Calls BUSY_WITHOUT_SCRIPT = BUSY.then(b -> b.runScript());

    static void test() {
        form();
        formAtTheEndOfTheBuffer();
        errorPositions();
        numbers();
        commandsStandForMethods();
        sailWithoutNumber();
        executedInOrder();
        allOrNone();
        runScript();
        runMalformed();
        runFailed();
        errorPosition();
        failedCommand();
    }

    private static Calls run(String text) {
        return script(text).then(b -> outcome(() -> b.runScript()));
    }

    private static Object runOf(String text) {
        return outcome(() -> runScript(new PillowBarge(), text));
    }

    private static final String MALFORMED = "throws.IllegalArgumentException";
    private static final String FAILED = "throws.IllegalStateException";

    private static void form() {
        terms("`script = command");
        terms("`command = ");
        for (String lead : LEADS) {
            for (String[] beginning : BEGINNINGS) {
                String text = lead + beginning[0];
                holds("'" + text + "' can end", !runOf(text).equals(MALFORMED), beginning.length == 3);
                for (char next = 32; next <= 126; next++) {
                    continuation(text, next, beginning[1].indexOf(next) >= 0);
                }
            }
        }
        terms("The error position of a script that does not have this form");
        for (String lead : LEADS) {
            for (String[] beginning : BEGINNINGS) {
                if (beginning.length == 2) {
                    dueError(lead + beginning[0], (lead + beginning[0]).length());
                }
                dueError(lead + beginning[0] + "x", (lead + beginning[0]).length());
                dueError(lead + beginning[0] + "x;turn", (lead + beginning[0]).length());
            }
        }
    }

    /** If the character can't continue the text, it stands at the error position; if it can, it doesn't. */
    private static void continuation(String text, char next, boolean possible) {
        PillowBarge b = new PillowBarge();
        Object run = outcome(() -> runScript(b, text + next));
        boolean refused = run.equals(MALFORMED) && b.errorPosition() == text.length();
        holds("'" + next + "' can continue '" + text + "'", !refused, possible);
        if (possible && run.equals(MALFORMED)) {
            holds("the end of '" + text + next + "'", b.errorPosition(), text.length() + 1);
        }
    }

    private static void dueError(String text, int position) {
        answers("'" + text + "'", MALFORMED, script(text), b -> b.runScript());
        answers("position in '" + text + "'", position, run(text), b -> b.errorPosition());
    }

    private static void formAtTheEndOfTheBuffer() {
        String lead = "turn;turn;turn;turn;turn;turn;turn;turn;turn;turn;";
        answers("60 characters", 11, script(lead + "load 3 1 2"), b -> b.runScript());
        dueError(lead + "turn;turn;", 60);
        dueError(lead + "turn;sail ", 60);
        dueError(lead + "load 3 12 ", 60);
        dueError(lead + "load 3 12x", 59);
        dueError(lead + "load 3 1 x", 59);
        dueError(lead + "xxxxxxxxxx", 50);
        answers("sail at the end", 12, script(lead + "turn;sail"), b -> b.runScript());
        answers("a number at the end", 12, script(lead + "turn;turn"), b -> b.runScript());
        answers("two digits at the end", 6, script(FULL), b -> b.runScript());
        answers("two digits at the end", 10, script(FULL).then(b -> b.runScript()), b -> b.day());
        answers("one digit at the end", 1, script(FULL.substring(0, 59)).then(b -> b.runScript()), b -> b.day());
    }

    private static void errorPositions() {
        dueError("", 0);
        dueError(";", 0);
        dueError(" turn", 0);
        dueError("Turn", 0);
        dueError("turn;", 5);
        dueError("turn;;turn", 5);
        dueError("turn; turn", 5);
        dueError("turn turn", 4);
        dueError("load  1 2 3", 5);
        dueError("load 10 2 3", 6);
        dueError("load 1 234 5", 9);
        dueError("load 1 2 34", 10);
        dueError("load 1 -2 3", 7);
        dueError("unload 10", 8);
        dueError("shift 10 2", 7);
        dueError("shift 1 23", 9);
        dueError("sail 100", 7);
        dueError("sail -1", 5);
        dueError("limit 100", 8);
        dueError("limit -5", 6);
        dueError("drill 100", 8);
        dueError("drill -100", 9);
        dueError("drill --1", 7);
        dueError("drill +1", 6);
        dueError("drill - 1", 7);
        // A command that would fail does not matter to the form.
        dueError("unload 9;sail 0;shift 1 1;x", 26);
    }

    private static void numbers() {
        terms("`number = digit [ digit ]`");
        for (int number = 0; number <= 99; number++) {
            int value = number;
            Object sailed = number >= 1 && number <= 20 ? (Object) number : (Object) 0;
            answers("sail " + number, sailed, run("sail " + number), b -> b.day());
            if (number <= 9) {
                answers("sail 0" + number, sailed, run("sail 0" + number), b -> b.day());
            }
            answers("limit " + number, value >= 10 ? value : 60, run("limit " + number), b -> b.limit());
            answers("drill " + number, value > 60 ? 1 : 0, run("drill " + number), b -> b.capsizedTotal());
            answers("drill -" + number, value > 60 ? 1 : 0, run("drill -" + number), b -> b.capsizedTotal());
            answers("drill " + number, 1, run("drill " + number), b -> b.drillTotal());
            answers("drill -" + number, 1, run("drill -" + number), b -> b.drillTotal());
        }
        for (int length : new int[] {0, 3, 4}) {
            String number = "123456".substring(0, length);
            int read = Math.min(length, 2);
            dueError("limit " + number, 6 + read);
            dueError("drill " + number, 6 + read);
            dueError("drill -" + number, 7 + read);
            dueError("sail " + number, 5 + read);
            dueError("load 1 " + number + " 3", 7 + read);
        }
    }

    /** The script does what the call does, or throws and changes nothing if the call throws. */
    private static void same(String text, Calls before, Ask call) {
        Object answer = outcome(() -> call.of(made(before)));
        boolean thrown = answer.toString().startsWith("throws.");
        answers("run of '" + text + "'", thrown ? FAILED : 1, before.then(script(text)), b -> b.runScript());
        holds("effect of '" + text + "'", Probe.now(before.then(run(text))),
                Probe.now(before.then(b -> outcome(() -> call.of(b)))));
    }

    private static void commandsStandForMethods() {
        terms("The commands stand for the methods load, unload, shift, sail, turn, setLimit and drill");
        for (Calls before : new Calls[] {EMPTY, BUSY_WITHOUT_SCRIPT, full(), tilt(60), tilt(-60)}) {
            for (int first = 0; first <= 9; first++) {
                int bay = first;
                same("unload " + bay, before, b -> b.unload(bay));
                for (int second = 0; second <= 9; second++) {
                    int other = second;
                    same("shift " + bay + " " + other, before, b -> b.shift(bay, other));
                    same("load " + bay + " " + other + " 0", before, b -> b.load(bay, other, 0));
                    same("load " + bay + " 2" + other + " 4", before, b -> b.load(bay, 20 + other, 4));
                    same("load 3 " + bay + other + " 2", before, b -> b.load(3, 10 * bay + other, 2));
                    same("load " + bay + " 7 " + other, before, b -> b.load(bay, 7, other));
                }
            }
            for (int each = 0; each <= 99; each++) {
                int number = each;
                same("sail " + number, before, b -> b.sail(number));
                same("limit " + number, before, b -> b.setLimit(number));
                same("drill " + number, before, b -> b.drill(number));
                same("drill -" + number, before, b -> b.drill(-number));
            }
            same("turn", before, b -> b.turn());
        }
    }

    private static void sailWithoutNumber() {
        answers("sail", 1, run("sail"), b -> b.day());
        answers("sail;sail", 2, run("sail;sail"), b -> b.day());
        answers("sail 2;sail", 3, run("sail 2;sail"), b -> b.day());
        answers("sail after an earlier script", 13, run("sail 12").then(run("sail")), b -> b.day());
        answers("sail after an earlier script", 13, run("turn;sail 12").then(run("turn;sail")), b -> b.day());
    }

    private static void executedInOrder() {
        terms("The commands are executed in order, and either all of them take effect or none.");
        answers("turn, then sail", 4, run("turn;sail"), b -> b.port());
        answers("sail, then turn", 1, run("sail;turn"), b -> b.port());
        answers("load, shift, unload", 3, script("load 3 5 0;shift 3 6;unload 6"), b -> b.runScript());
        answers("unload, load", FAILED, script("unload 3;load 3 5 0"), b -> b.runScript());
        answers("to both sides in turn", 3, script("load 6 20 0;load 0 20 0;load 6 20 0"), b -> b.runScript());
        answers("to one side first", 1, run("load 6 20 0;load 6 20 0;load 0 20 0"), b -> b.failedCommand());
        answers("limit, then load", 2, script("limit 61;load 5 20 0"), b -> b.runScript());
        answers("a lower limit, then load", 1, run("limit 39;load 5 20 0"), b -> b.failedCommand());
        answers("load, then a lower limit", 1, run("load 5 20 0;limit 39"), b -> b.failedCommand());
        answers("drills at both limits", 1, run("drill 60;limit 59;drill 60"), b -> b.capsizedTotal());
    }

    private static void allOrNone() {
        failAtEach("load 1 2 3", "sail", "drill 9", "limit 70", "load 3 1 4", "shift 3 4");
        failAtEach("turn", "sail 20", "turn", "drill -99", "limit 99", "turn");
        throwsAway("unload 2;sail 0", FAILED, stack(2, 5));
        throwsAway("shift 2 3;sail 0", FAILED, stack(2, 5));
        throwsAway("load 2 1 0;load 2 1 0", FAILED, stack(2, 4));
    }

    /** The script of the first commands runs; with a command that fails behind them none takes effect. */
    private static void failAtEach(String... commands) {
        StringBuilder text = new StringBuilder();
        for (int index = 0; index < commands.length; index++) {
            text.append(commands[index]);
            answers("all of '" + text + "'", index + 1, script(text.toString()), b -> b.runScript());
            text.append(';');
            String failing = text + "sail 0";
            throwsAway(failing, FAILED, EMPTY);
            throwsAway(failing, FAILED, BUSY_WITHOUT_SCRIPT);
            answers("the failed one of '" + failing + "'", index + 1, run(failing), b -> b.failedCommand());
        }
    }

    /** The script throws, no command takes effect, and the buffer is empty. */
    private static void throwsAway(String text, String exception, Calls before) {
        Calls run = before.then(run(text));
        answers("run of '" + text + "'", exception, before.then(script(text)), b -> b.runScript());
        holds("no effect of '" + text + "'", Probe.covered(run), Probe.covered(before));
        holds("the snapshot after '" + text + "'", Probe.snapshot(run), Probe.snapshot(before));
        holds("the output after '" + text + "'", Probe.output(run), Probe.output(before));
        answers("the buffer after '" + text + "'", 1, run, b -> b.type('x'));
    }

    private static void runScript() {
        says(51, "Runs the script in the script buffer.", "Returns the number of commands.");
        StringBuilder text = new StringBuilder("turn");
        for (int commands = 1; commands <= 12; commands++) {
            answers(commands + " commands", commands, script(text.toString()), b -> b.runScript());
            answers("their effect", commands % 2 == 0, run(text.toString()), b -> b.isAscending());
            text.append(";turn");
        }
        says(51, "The buffer is empty afterwards, also if an exception is thrown.");
        answers("after a script", 1, run("turn"), b -> b.type('x'));
        answers("after a malformed script", 1, run("turn;"), b -> b.type('x'));
        answers("after a failed script", 1, run("turn;sail 0"), b -> b.type('x'));
        answers("after a full buffer", 1, run(FULL), b -> b.type('x'));
        answers("an empty buffer", MALFORMED, EMPTY, b -> b.runScript());
        answers("an empty buffer after a script", MALFORMED, run("turn"), b -> b.runScript());
        answers("an empty buffer after a malformed script", MALFORMED, run("x"), b -> b.runScript());
        answers("an empty buffer after a failed script", MALFORMED, run("sail 0"), b -> b.runScript());
        nothingIsLeftOf("sail 12", "sail 1", 13);
        nothingIsLeftOf("turn;turn;sail 9", "sail", 10);
        nothingIsLeftOf("sail 20;sail 20", "sail 2", 42);
        dueErrorAfter("sail 1", "sail ");
        dueErrorAfter("limit 75", "limit ");
        dueErrorAfter("drill -5", "drill -");
        dueErrorAfter("drill 5", "drill ");
        dueErrorAfter("load 3 1 4", "load 3 1 ");
        dueErrorAfter("load 3 1 4", "load 3 ");
        dueErrorAfter("load 3 1 4", "load ");
        dueErrorAfter("unload 3", "unload ");
        dueErrorAfter("shift 2 3", "shift 2 ");
        dueErrorAfter("turn", "tur");
        dueErrorAfter("turn;turn", "turn;");
        answers("no longer 75", FAILED, run("limit 75").then(script("limit 7")), b -> b.runScript());
        answers("no longer 61", 1, run("drill 61").then(run("drill 6")), b -> b.capsizedTotal());
        answers("no longer -61", 1, run("drill -61").then(run("drill -6")), b -> b.capsizedTotal());
        answers("the next script", 1, run("turn;").then(script("sail")), b -> b.runScript());
        answers("the next script", 1, run("turn").then(script("sail")).then(b -> b.runScript()), b -> b.day());
    }

    private static void nothingIsLeftOf(String longer, String shorter, int day) {
        answers("'" + shorter + "' after '" + longer + "'", day, run(longer).then(run(shorter)), b -> b.day());
    }

    /** The shorter script is a beginning of the longer one, and its end comes too early. */
    private static void dueErrorAfter(String longer, String shorter) {
        answers("'" + shorter + "' after '" + longer + "'", MALFORMED, run(longer).then(script(shorter)),
                b -> b.runScript());
        answers("position in '" + shorter + "' after '" + longer + "'", shorter.length(),
                run(longer).then(run(shorter)), b -> b.errorPosition());
    }

    private static void runMalformed() {
        says(51, "Throws `IllegalArgumentException` if the script does not have the required form; errorPosition");
        for (Calls before : new Calls[] {EMPTY, BUSY_WITHOUT_SCRIPT, full()}) {
            for (String text : new String[] {"", "x", "turn;", "sail;load 3 1 0;drill 9;turn;;", "limit 70;sail 100"}) {
                throwsAway(text, MALFORMED, before);
                holds("failedCommand after '" + text + "'",
                        outcome(() -> made(before.then(run(text))).failedCommand()),
                        outcome(() -> made(before).failedCommand()));
            }
        }
        answers("errorPosition", 0, BUSY_WITHOUT_SCRIPT.then(run("")), b -> b.errorPosition());
        answers("errorPosition", 5, BUSY_WITHOUT_SCRIPT.then(run("turn;")), b -> b.errorPosition());
        answers("errorPosition", 16, BUSY_WITHOUT_SCRIPT.then(run("limit 70;sail 100")), b -> b.errorPosition());
    }

    private static void dueFailure(String text, int command, Calls before) {
        throwsAway(text, FAILED, before);
        answers("failedCommand of '" + text + "'", command, before.then(run(text)), b -> b.failedCommand());
        holds("errorPosition after '" + text + "'",
                outcome(() -> made(before.then(run(text))).errorPosition()),
                outcome(() -> made(before).errorPosition()));
    }

    private static void runFailed() {
        says(51, "Throws `IllegalStateException` if the method for a command throws an exception; no command takes");
        dueFailures(EMPTY, "load 7 1 0", "load 3 0 0", "load 3 21 0", "load 3 1 5", "unload 7", "unload 3",
                "shift 7 0", "shift 0 7", "shift 2 2", "shift 2 3", "sail 0", "sail 00", "sail 21", "sail 99",
                "limit 9", "limit 0", "limit 09");
        dueFailures(BUSY_WITHOUT_SCRIPT, "load 7 1 0", "unload 8", "shift 1 9", "limit 9", "sail 21");
        dueFailures(stack(3, 5), "load 3 1 0", "load 4 20 9");
        dueFailures(stack(3, 5).then(stack(2, 1)), "shift 2 3");
        dueFailures(stackForPortOne(), "unload 3");
        dueFailures(tilt(60), "load 4 1 0", "load 6 1 0", "limit 59", "limit 10");
        dueFailures(tilt(-60), "load 2 1 0", "load 0 1 0", "limit 59");
        dueFailures(tilt(60).then(b -> b.load(3, 1, 0)), "shift 3 4");
        dueFailures(stack(2, 1).then(tilt(61)), "unload 2");
        for (String good : new String[] {"load 0 1 0", "load 6 20 4", "sail 1", "sail 20", "limit 10", "limit 99",
                "drill 99", "drill -99", "drill 0", "drill -0", "turn"}) {
            answers("'" + good + "'", 1, script(good), b -> b.runScript());
        }
        answers("limit to the moment", 1, tilt(60).then(script("limit 60")), b -> b.runScript());
        answers("load to the limit", 1, tilt(59).then(script("load 4 1 0")), b -> b.runScript());
    }

    private static Calls stackForPortOne() {
        return b -> b.load(3, 1, 1);
    }

    /** Each command fails by itself, behind others and before others. */
    private static void dueFailures(Calls before, String... commands) {
        for (String command : commands) {
            dueFailure(command, 0, before);
            dueFailure("drill 1;" + command, 1, before);
            dueFailure("drill 1;turn;turn;" + command + ";" + command + ";sail", 3, before);
        }
    }

    private static void errorPosition() {
        says(52, "Returns the error position of the latest script that did not have the required form.",
                "Returns the error position.");
        answers("the first", 5, run("turn;"), b -> b.errorPosition());
        answers("the latest", 1, run("turn;").then(run("s")), b -> b.errorPosition());
        answers("the latest, of the empty script", 0, run("turn;").then(run("")), b -> b.errorPosition());
        answers("a script that runs", 5, run("turn;").then(run("turn")), b -> b.errorPosition());
        answers("a script that fails", 5, run("turn;").then(run("sail 0")), b -> b.errorPosition());
        answers("the greatest", 60, run("turn;turn;turn;turn;turn;turn;turn;turn;turn;turn;turn;turn;"),
                b -> b.errorPosition());
        says(52, "Throws `NoSuchElementException` if there was no such script");
        refusesElement("no script", EMPTY, b -> b.errorPosition());
        refusesElement("a script that is not run", script("turn;"), b -> b.errorPosition());
        refusesElement("a script that runs", run("turn"), b -> b.errorPosition());
        refusesElement("a script that fails", run("turn;sail 0"), b -> b.errorPosition());
    }

    private static void failedCommand() {
        says(53, "Returns the index of the command that failed in the latest script with a failed command.",
                "Returns the index of the command, counted from 0.");
        answers("the first", 1, run("turn;sail 0"), b -> b.failedCommand());
        answers("the latest", 0, run("turn;sail 0").then(run("sail 0")), b -> b.failedCommand());
        answers("the first that fails", 1, run("turn;sail 0;sail 0;unload 9"), b -> b.failedCommand());
        answers("a script that runs", 1, run("turn;sail 0").then(run("turn")), b -> b.failedCommand());
        answers("a malformed script", 1, run("turn;sail 0").then(run("turn;")), b -> b.failedCommand());
        answers("the greatest", 10, run("turn;turn;turn;turn;turn;turn;turn;turn;turn;turn;unload 3"),
                b -> b.failedCommand());
        says(53, "Throws `NoSuchElementException` if there was no such script");
        refusesElement("no script", EMPTY, b -> b.failedCommand());
        refusesElement("a script that is not run", script("sail 0"), b -> b.failedCommand());
        refusesElement("a script that runs", run("turn"), b -> b.failedCommand());
        refusesElement("a malformed script", run("turn;sail 0;"), b -> b.failedCommand());
    }
}
