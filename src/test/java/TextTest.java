/** Promises 47 to 53: the output text and the scripts. */
public final class TextTest extends Check {
    public static void main(String[] args) {
        renderStack();
        renderBarge();
        outputAt();
        type();
        typeIntoFullBuffer();
        runScript();
        runEveryCommand();
        runDrills();
        runShorterScript();
        runMostCommands();
        runFailedScript();
        runMalformedScript();
        errorPositions();
        errorPositionIsKept();
        failedCommandIsKept();
        failures();
        end("TextTest");
    }

    private static void renderStack() {
        PillowBarge b = new PillowBarge();
        due("47 renderStack of an empty stack", output(b, b.renderStack(3)), "");
        b.load(3, 12, 3);
        due("47 renderStack", output(b, b.renderStack(3)), "0w12p3");
        for (int pillow = 1; pillow < 7; pillow++) {
            b.load(2, 1, 0);
            b.shift(2, 4 + pillow % 2);
        }
        b.load(3, 5, 0);
        due("47 renderStack", output(b, b.renderStack(3)), "0w12p3 7w5p0");
        due("47 renderStack", output(b, b.renderStack(4)), "2w1p0 4w1p0 6w1p0");
        for (int bay : NO_BAYS) {
            dueThrow("47 renderStack of " + bay, INDEX, () -> b.renderStack(bay));
        }
        due("47 the text stays", output(b, 17), "2w1p0 4w1p0 6w1p0");
        due("47 renderStack of an empty stack", output(b, b.renderStack(0)), "");
        PillowBarge worn = new PillowBarge();
        for (int pillow = 0; pillow < 100; pillow++) {
            worn.load(3, 1, 0);
            worn.unload(3);
        }
        worn.load(6, 20, 4);
        due("47 renderStack of pillow 100", output(worn, worn.renderStack(6)), "100w20p4");
    }

    private static void renderBarge() {
        PillowBarge b = new PillowBarge();
        due("48 renderBarge", output(b, b.renderBarge()), "0 0 0 0 0 0 0=0");
        b.load(1, 12, 0);
        due("48 renderBarge", output(b, b.renderBarge()), "0 12 0 0 0 0 0=-24");
        b.load(3, 2, 0);
        b.load(3, 3, 0);
        b.load(6, 20, 0);
        due("48 renderBarge", output(b, b.renderBarge()), "0 12 0 5 0 0 20=36");
    }

    private static void outputAt() {
        PillowBarge b = new PillowBarge();
        dueThrow("49 outputAt of no text", INDEX, () -> b.outputAt(0));
        b.load(1, 12, 4);
        b.renderStack(1);
        due("49 outputAt", b.outputAt(0), '0');
        due("49 outputAt", b.outputAt(1), 'w');
        due("49 outputAt", b.outputAt(5), '4');
        for (int index : new int[] {-1, 6, 7, Integer.MIN_VALUE, Integer.MAX_VALUE}) {
            dueThrow("49 outputAt " + index, INDEX, () -> b.outputAt(index));
        }
    }

    private static void type() {
        PillowBarge b = new PillowBarge();
        due("50 type", b.type(' '), 1);
        due("50 type", b.type('~'), 2);
        due("50 type", b.type('a'), 3);
        for (int code : new int[] {0, 10, 31, 127, 128, 233, 65535}) {
            dueThrow("50 type " + code, ARGUMENT, () -> b.type((char) code));
        }
        due("50 type", b.type(';'), 4);
    }

    private static void typeIntoFullBuffer() {
        PillowBarge b = new PillowBarge();
        for (int length = 1; length <= 60; length++) {
            due("50 type", b.type('x'), length);
        }
        dueThrow("50 type into a full buffer", STATE, () -> b.type('x'));
        dueThrow("50 type a wrong character into a full buffer", ARGUMENT, () -> b.type((char) 31));
        dueThrow("51 runScript", ARGUMENT, () -> b.runScript());
        due("50 type", b.type('x'), 1);
    }

    private static void runScript() {
        PillowBarge b = new PillowBarge();
        due("51 runScript", runScript(b, "load 3 12 4;sail;turn"), 3);
        due("51 weightOf", b.weightOf(0), 12);
        due("51 destinationOf", b.destinationOf(0), 4);
        due("51 bayOf", b.bayOf(0), 3);
        due("51 port", b.port(), 1);
        due("51 isAscending", b.isAscending(), false);
        due("51 the buffer is empty", b.type('t'), 1);
        due("51 runScript", runScript(b, "urn"), 1);
        due("51 isAscending", b.isAscending(), true);
        dueThrow("51 no errorPosition", ELEMENT, () -> b.errorPosition());
        dueThrow("51 no failedCommand", ELEMENT, () -> b.failedCommand());
    }

    private static void runEveryCommand() {
        PillowBarge b = new PillowBarge();
        due("51 load", runScript(b, "load 4 7 2;load 4 09 0;load 2 20 1"), 3);
        due("51 load", output(b, b.renderStack(4)), "0w7p2 1w9p0");
        due("51 load", output(b, b.renderBarge()), "0 0 20 0 16 0 0=-4");
        due("51 unload", runScript(b, "unload 4"), 1);
        due("51 unload", b.deliveredWeight(), 9);
        due("51 shift", runScript(b, "shift 4 6"), 1);
        due("51 shift", b.bayOf(0), 6);
        due("51 sail", runScript(b, "sail"), 1);
        due("51 sail", b.day(), 1);
        due("51 sail", runScript(b, "sail 7;sail 12;sail 01;sail"), 4);
        due("51 sail", b.day(), 22);
        due("51 turn", runScript(b, "turn"), 1);
        due("51 turn", b.isAscending(), false);
        due("51 limit", runScript(b, "limit 98;limit 10;limit 42"), 3);
        due("51 limit", b.limit(), 42);
        due("51 drill", runScript(b, "drill 41;drill 42;drill -43;drill -44"), 4);
        due("51 drill", b.capsizedTotal(), 2);
        due("51 drill", runScript(b, "drill -99;drill 5;drill -0;drill -07;drill 00;drill 99"), 6);
        due("51 drill", b.drillTotal(), 10);
        due("51 drill", b.capsizedTotal(), 4);
    }

    private static void runDrills() {
        dueDrill("drill 60", 0);
        dueDrill("drill 61", 1);
        dueDrill("drill -60", 0);
        dueDrill("drill -61", 1);
        dueDrill("drill 6", 0);
        dueDrill("drill -9", 0);
    }

    private static void dueDrill(String script, int capsized) {
        PillowBarge b = new PillowBarge();
        due("51 runScript of " + script, runScript(b, script), 1);
        due("51 drillTotal of " + script, b.drillTotal(), 1);
        due("51 capsizedTotal of " + script, b.capsizedTotal(), capsized);
    }

    private static void runShorterScript() {
        PillowBarge b = new PillowBarge();
        runScript(b, "sail 12;turn");
        due("51 a shorter script", runScript(b, "sail 1"), 1);
        due("51 day", b.day(), 13);
        due("51 a shorter script", runScript(b, "sail"), 1);
        due("51 day", b.day(), 14);
        dueThrow("51 a beginning of the former script", ARGUMENT, () -> runScript(b, "sai"));
        due("52 errorPosition", b.errorPosition(), 3);
        runScript(b, "limit 75");
        dueThrow("51 a beginning of the former script", ARGUMENT, () -> runScript(b, "limit "));
        due("52 errorPosition", b.errorPosition(), 6);
        due("51 limit", b.limit(), 75);
    }

    private static void runMostCommands() {
        PillowBarge b = new PillowBarge();
        String eleven = "turn;sail;turn;sail;turn;sail;turn;sail;turn;sail;turn;";
        due("51 runScript of twelve commands", runScript(b, eleven + "sail"), 12);
        due("51 day", b.day(), 6);
        due("51 isAscending", b.isAscending(), true);
        dueThrow("51 a semicolon behind twelve", ARGUMENT, () -> runScript(b, eleven + "sail;"));
        due("52 errorPosition", b.errorPosition(), 60);
        String full = "load 3 20 0;load 3 20 0;load 3 20 0;load 3 20 0;turn;sail 10";
        due("50 a full buffer", full.length(), 60);
        due("51 runScript of a full buffer", runScript(b, full), 6);
        due("51 day", b.day(), 16);
    }

    private static void runFailedScript() {
        PillowBarge b = new PillowBarge();
        b.load(3, 5, 0);
        b.setLimit(50);
        b.drill(51);
        dueThrow("51 runScript", STATE, () ->
                runScript(b, "load 1 2 3;unload 3;sail 3;turn;limit 70;drill 99;sail 0"));
        due("53 failedCommand", b.failedCommand(), 6);
        due("51 no load", b.loadedTotal(), 1);
        due("51 no load", b.stackHeight(1), 0);
        due("51 no unload", b.stackHeight(3), 1);
        due("51 no unload", b.deliveredTotal(), 0);
        due("51 no unload", b.deliveredWeight(), 0);
        due("51 no sail", b.port(), 0);
        due("51 no sail", b.day(), 0);
        due("51 no turn", b.isAscending(), true);
        due("51 no limit", b.limit(), 50);
        due("51 no drill", b.drillTotal(), 1);
        due("51 no drill", b.capsizedTotal(), 1);
        due("51 the buffer is empty", b.type('x'), 1);
        due("51 no number is spent", b.load(0, 1, 0), 1);
    }

    private static void runMalformedScript() {
        PillowBarge b = new PillowBarge();
        dueThrow("51 runScript", ARGUMENT, () -> runScript(b, "load 1 2 3;sail 3;sail 0;turn;x"));
        due("52 errorPosition", b.errorPosition(), 30);
        dueThrow("51 a malformed script does not fail", ELEMENT, () -> b.failedCommand());
        due("51 no command takes effect", b.pillowCount(), 0);
        due("51 no command takes effect", b.day(), 0);
        due("51 the buffer is empty", b.type('x'), 1);
    }

    private static void errorPositions() {
        dueError("", 0);
        dueError("x", 0);
        dueError(" ", 0);
        dueError(" turn", 0);
        dueError(";", 0);
        dueError("5", 0);
        dueError("Turn", 0);
        dueError("l", 1);
        dueError("la", 1);
        dueError("lo", 2);
        dueError("li", 2);
        dueError("lx", 1);
        dueError("load", 4);
        dueError("loads", 4);
        dueError("load;", 4);
        dueError("load ", 5);
        dueError("load x", 5);
        dueError("load  1 2 3", 5);
        dueError("load -1 2 3", 5);
        dueError("load 1", 6);
        dueError("load 12 3 4", 6);
        dueError("load 1 ", 7);
        dueError("load 1  2", 7);
        dueError("load 1 x", 7);
        dueError("load 1 2", 8);
        dueError("load 1 2;", 8);
        dueError("load 1 2 ", 9);
        dueError("load 1 23", 9);
        dueError("load 1 234 5", 9);
        dueError("load 1 23 ", 10);
        dueError("load 1 23 x", 10);
        dueError("load 1 2 34", 10);
        dueError("load 1 2 3 ", 10);
        dueError("u", 1);
        dueError("unl", 3);
        dueError("unx", 2);
        dueError("unload", 6);
        dueError("unload ", 7);
        dueError("unload x", 7);
        dueError("unload 33", 8);
        dueError("unload 3 ", 8);
        dueError("s", 1);
        dueError("sx", 1);
        dueError("sh", 2);
        dueError("sa", 2);
        dueError("shail", 2);
        dueError("shift 1", 7);
        dueError("shift 1;", 7);
        dueError("shift 12 3", 7);
        dueError("shift 1 ", 8);
        dueError("shift 1 23", 9);
        dueError("sai", 3);
        dueError("sailx", 4);
        dueError("sail1", 4);
        dueError("sail ", 5);
        dueError("sail ;", 5);
        dueError("sail  1", 5);
        dueError("sail -1", 5);
        dueError("sail 1x", 6);
        dueError("sail 1 ", 6);
        dueError("sail 123", 7);
        dueError("t", 1);
        dueError("tur", 3);
        dueError("turn ", 4);
        dueError("turnturn", 4);
        dueError("turn 1", 4);
        dueError("turn;", 5);
        dueError("turn;;", 5);
        dueError("turn; turn", 5);
        dueError("turn,turn", 4);
        dueError("limi", 4);
        dueError("limit ", 6);
        dueError("limit -5", 6);
        dueError("limit 5-", 7);
        dueError("limit 100", 8);
        dueError("d", 1);
        dueError("drill ", 6);
        dueError("drill +1", 6);
        dueError("drill -", 7);
        dueError("drill --1", 7);
        dueError("drill - 1", 7);
        dueError("drill 1-", 7);
        dueError("drill 100", 8);
        dueError("drill -100", 9);
        dueError("turn;s", 6);
        dueError("turn;sa;", 7);
        dueError("sail 2;drill -4;load 1 2 3;", 27);
        dueError("sail 2;drill -4;load 1 2 3;unloaf 3", 32);
    }

    private static void dueError(String script, int position) {
        PillowBarge b = new PillowBarge();
        dueThrow("51 runScript of '" + script + "'", ARGUMENT, () -> runScript(b, script));
        due("52 errorPosition of '" + script + "'", outcome(() -> b.errorPosition()), position);
    }

    private static void errorPositionIsKept() {
        PillowBarge b = new PillowBarge();
        dueThrow("52 no errorPosition", ELEMENT, () -> b.errorPosition());
        dueThrow("51 runScript", ARGUMENT, () -> runScript(b, "turn;"));
        due("52 errorPosition", b.errorPosition(), 5);
        runScript(b, "turn;turn");
        due("52 errorPosition after a good script", b.errorPosition(), 5);
        dueThrow("51 runScript", STATE, () -> runScript(b, "sail 0"));
        due("52 errorPosition after a failed script", b.errorPosition(), 5);
        dueThrow("51 runScript", ARGUMENT, () -> b.runScript());
        due("52 errorPosition", b.errorPosition(), 0);
    }

    private static void failedCommandIsKept() {
        PillowBarge b = new PillowBarge();
        dueThrow("51 runScript", ARGUMENT, () -> runScript(b, "sail 0;x"));
        dueThrow("53 no failedCommand", ELEMENT, () -> b.failedCommand());
        dueThrow("51 runScript", STATE, () -> runScript(b, "turn;sail;sail 0;sail 0"));
        due("53 failedCommand", b.failedCommand(), 2);
        runScript(b, "turn");
        due("53 failedCommand after a good script", b.failedCommand(), 2);
        dueThrow("51 runScript", ARGUMENT, () -> runScript(b, "x"));
        due("53 failedCommand after a malformed script", b.failedCommand(), 2);
        dueThrow("51 runScript", STATE, () -> runScript(b, "sail 0"));
        due("53 failedCommand", b.failedCommand(), 0);
    }

    private static void failures() {
        dueFailure("load 7 1 0", 0);
        dueFailure("load 3 1 0;load 3 0 0", 1);
        dueFailure("load 3 20 0;load 3 21 0", 1);
        dueFailure("load 3 1 4;load 3 1 5", 1);
        dueFailure("load 3 1 0;load 3 1 0;load 3 1 0;load 3 1 0;load 3 1 0", -1);
        dueFailure("load 0 20 0;load 6 1 0;load 2 3 0;load 2 1 0", 3);
        dueFailure("unload 8", 0);
        dueFailure("unload 3", 0);
        dueFailure("load 3 1 0;unload 3;unload 3", 2);
        dueFailure("load 3 1 1;sail;unload 3;load 3 1 1;sail;unload 3", 5);
        dueFailure("load 6 20 0;load 0 20 0;load 2 1 0;unload 6", 3);
        dueFailure("shift 7 1", 0);
        dueFailure("shift 1 7", 0);
        dueFailure("shift 1 1", 0);
        dueFailure("shift 0 1", 0);
        dueFailure("load 3 20 0;shift 3 0;load 3 1 0;shift 3 2", 3);
        dueFailure("sail 20;sail 1;sail 21", 2);
        dueFailure("sail 00", 0);
        dueFailure("limit 10;limit 99;limit 9", 2);
        dueFailure("load 3 20 0;limit 10;shift 3 4", 2);
        dueFailure("load 4 20 0;limit 20;limit 19", 2);
        dueFailure("drill 99;drill -99;turn;turn", -1);
    }

    /** A failure at -1 means that the script runs. */
    private static void dueFailure(String script, int command) {
        PillowBarge b = new PillowBarge();
        Object run = outcome(() -> runScript(b, script));
        if (command == -1) {
            due("51 runScript of '" + script + "'", run, script.split(";").length);
            return;
        }
        due("51 runScript of '" + script + "'", run, "throws.IllegalStateException");
        due("53 failedCommand of '" + script + "'", outcome(() -> b.failedCommand()), command);
        due("51 nothing loaded by '" + script + "'", b.loadedTotal(), 0);
        dueThrow("51 nothing to undo after '" + script + "'", ELEMENT, () -> b.undo());
    }
}
