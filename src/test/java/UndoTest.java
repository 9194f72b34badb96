/** Promises 54 to 56: undo and the snapshot. */
public final class UndoTest extends Check {
    public static void main(String[] args) {
        undoLatestEight();
        undoEachChange();
        undoReplacedPillows();
        undoChangesWithoutEffect();
        undoAfterUndo();
        undoScripts();
        exceptionsAreNoChanges();
        otherCallsAreNoChanges();
        failedScriptKeepsTheOldest();
        whatUndoLeaves();
        save();
        restore();
        restoreForgetsChanges();
        whatRestoreLeaves();
        end("UndoTest");
    }

    private static void undoLatestEight() {
        PillowBarge b = new PillowBarge();
        dueThrow("54 undo of nothing", ELEMENT, () -> b.undo());
        for (int legs = 1; legs <= 10; legs++) {
            b.sail(legs);
        }
        due("54 day", b.day(), 55);
        int[] days = {45, 36, 28, 21, 15, 10, 6, 3};
        for (int undone = 0; undone < 8; undone++) {
            due("54 undo", b.undo(), 7 - undone);
            due("54 day", b.day(), days[undone]);
        }
        dueThrow("54 undo of the ninth change", ELEMENT, () -> b.undo());
        due("54 day", b.day(), 3);
        due("54 port", b.port(), 3);
    }

    private static void undoEachChange() {
        dueUndone("load", b -> b.load(4, 3, 2));
        dueUndone("unload", b -> b.unload(2));
        dueUndone("shift", b -> b.shift(2, 5));
        dueUndone("sail", b -> b.sail(7));
        dueUndone("turn", b -> b.turn());
        dueUndone("setLimit", b -> b.setLimit(70));
        dueUndone("drill", b -> b.drill(70));
        dueUndone("drill", b -> b.drill(0));
        dueUndone("runScript", b -> runScript(b, "load 4 3 2;shift 2 5;unload 2;turn;sail 7;limit 50;drill 99"));
    }

    private interface Change {
        Object on(PillowBarge b);
    }

    // Each change has an object of its own, which so stays below its 512 calls.
    private static void dueUndone(String name, Change change) {
        PillowBarge b = new PillowBarge();
        b.load(2, 5, 1);
        b.load(2, 4, 1);
        b.sail(1);
        String before = state(b);
        due("54 " + name + " answers", outcome(() -> change.on(b)).toString().startsWith("throws"), false);
        due("54 " + name + " has an effect", state(b).equals(before), false);
        due("54 undo of " + name, b.undo(), 3);
        due("54 state before " + name, state(b), before);
        due("54 the number is taken back", b.load(3, 1, 0), 2);
        due("54 undo", b.undo(), 3);
    }

    /** What undo and the snapshot cover, as far as it can be asked without a change. */
    private static String state(PillowBarge b) {
        StringBuilder text = new StringBuilder();
        for (int bay = 0; bay < 7; bay++) {
            text.append(output(b, b.renderStack(bay))).append('/');
        }
        for (int pillow = 0; pillow < 10; pillow++) {
            int number = pillow;
            text.append(outcome(() -> b.ageOf(number))).append(' ');
        }
        return text.append(b.port()).append(' ').append(b.day()).append(' ').append(b.isAscending())
                .append(' ').append(b.limit()).append(' ').append(b.loadedTotal())
                .append(' ').append(b.deliveredTotal()).append(' ').append(b.deliveredWeight())
                .append(' ').append(b.drillTotal()).append(' ').append(b.capsizedTotal()).toString();
    }

    private static void undoReplacedPillows() {
        PillowBarge b = new PillowBarge();
        b.load(4, 12, 0);
        b.save();
        String saved = state(b);
        b.sail(5);
        b.unload(4);
        b.load(4, 3, 2);
        due("54 another pillow in its place", output(b, b.renderStack(4)), "1w3p2");
        b.undo();
        b.undo();
        due("54 the pillow before", output(b, b.renderStack(4)), "0w12p0");
        due("54 its age", b.ageOf(0), 5);
        b.unload(4);
        b.load(4, 3, 2);
        b.restore();
        due("56 the pillow before", output(b, b.renderStack(4)), "0w12p0");
        due("56 its age", b.ageOf(0), 0);
        due("56 the saved state", state(b), saved);
    }

    private static void undoChangesWithoutEffect() {
        PillowBarge b = new PillowBarge();
        b.turn();
        b.setLimit(60);
        b.setLimit(60);
        due("54 undo of setLimit to the same", b.undo(), 2);
        due("54 undo of setLimit to the same", b.undo(), 1);
        due("54 isAscending", b.isAscending(), false);
        due("54 undo", b.undo(), 0);
        due("54 isAscending", b.isAscending(), true);
    }

    private static void undoAfterUndo() {
        PillowBarge b = new PillowBarge();
        b.sail(1);
        b.sail(2);
        b.sail(3);
        due("54 undo", b.undo(), 2);
        b.sail(4);
        due("54 day", b.day(), 7);
        due("54 undo", b.undo(), 2);
        due("54 day", b.day(), 3);
        due("54 undo", b.undo(), 1);
        due("54 day", b.day(), 1);
        due("54 undo", b.undo(), 0);
        due("54 day", b.day(), 0);
        for (int round = 0; round < 30; round++) {
            b.sail(1);
            b.sail(2);
            b.undo();
        }
        due("54 day", b.day(), 30);
        // The eighth place went to the change that was undone last.
        for (int left = 6; left >= 0; left--) {
            due("54 undo", b.undo(), left);
            due("54 day", b.day(), 23 + left);
        }
        dueThrow("54 undo of an older change", ELEMENT, () -> b.undo());
    }

    private static void undoScripts() {
        PillowBarge b = new PillowBarge();
        b.sail(1);
        runScript(b, "sail 2;turn;sail 3;turn;drill 61");
        due("54 day", b.day(), 6);
        due("54 undo of a script", b.undo(), 1);
        due("54 day", b.day(), 1);
        due("54 isAscending", b.isAscending(), true);
        due("54 capsizedTotal", b.capsizedTotal(), 0);
        due("54 undo", b.undo(), 0);
        due("54 day", b.day(), 0);
    }

    private static void exceptionsAreNoChanges() {
        PillowBarge b = new PillowBarge();
        b.sail(1);
        dueThrow("2 load", INDEX, () -> b.load(7, 1, 1));
        dueThrow("3 unload", ELEMENT, () -> b.unload(1));
        dueThrow("4 shift", ARGUMENT, () -> b.shift(1, 1));
        dueThrow("5 sail", ARGUMENT, () -> b.sail(0));
        dueThrow("7 setLimit", ARGUMENT, () -> b.setLimit(0));
        dueThrow("8 drill", ARGUMENT, () -> b.drill(100));
        dueThrow("51 runScript", ARGUMENT, () -> b.runScript());
        dueThrow("51 runScript", STATE, () -> runScript(b, "turn;sail 0"));
        due("54 undo", b.undo(), 0);
        due("54 day", b.day(), 0);
        dueThrow("54 undo of nothing", ELEMENT, () -> b.undo());
    }

    private static void otherCallsAreNoChanges() {
        PillowBarge b = new PillowBarge();
        b.sail(1);
        b.save();
        b.type('x');
        b.renderBarge();
        b.renderStack(0);
        b.portAfter(3);
        b.levelingBay(3);
        b.possibleShifts();
        b.isConsistent();
        due("54 undo", b.undo(), 0);
        due("54 day", b.day(), 0);
    }

    private static void failedScriptKeepsTheOldest() {
        PillowBarge b = new PillowBarge();
        for (int change = 0; change < 12; change++) {
            b.sail(1);
        }
        dueThrow("51 runScript", STATE, () -> runScript(b, "sail 20;sail 0"));
        due("51 day", b.day(), 12);
        for (int left = 7; left >= 0; left--) {
            due("54 undo after a failed script", b.undo(), left);
            due("54 day", b.day(), 4 + left);
        }
    }

    private static void whatUndoLeaves() {
        PillowBarge b = new PillowBarge();
        b.load(3, 1, 0);
        b.load(2, 7, 4);
        b.save();
        due("54 renderStack", b.renderStack(2), 5);
        dueThrow("51 runScript", ARGUMENT, () -> runScript(b, "turn;x"));
        dueThrow("51 runScript", STATE, () -> runScript(b, "turn;sail 0"));
        type(b, "tur");
        b.undo();
        b.undo();
        due("54 pillowCount", b.pillowCount(), 0);
        due("54 the output text stays", output(b, 5), "1w7p4");
        due("54 the error position stays", b.errorPosition(), 5);
        due("54 the failed command stays", b.failedCommand(), 1);
        due("54 the script buffer stays", b.type('n'), 4);
        due("54 the script buffer stays", b.runScript(), 1);
        due("54 the snapshot stays", b.restore(), 2);
        due("54 weightOf", b.weightOf(1), 7);
    }

    private static void save() {
        PillowBarge b = new PillowBarge();
        due("55 save", b.save(), 0);
        b.load(3, 1, 0);
        b.load(3, 2, 0);
        due("55 save", b.save(), 2);
        b.load(3, 3, 0);
        due("55 the later snapshot", b.restore(), 2);
        b.unload(3);
        due("55 save", b.save(), 1);
        b.load(3, 5, 0);
        due("55 the later snapshot", b.restore(), 1);
        due("55 deliveredWeight", b.deliveredWeight(), 2);
        due("55 the next number", b.load(3, 1, 0), 2);
    }

    private static void restore() {
        PillowBarge b = new PillowBarge();
        dueThrow("56 restore without a snapshot", STATE, () -> b.restore());
        runScript(b, "load 2 5 1;load 2 4 3;load 5 3 0;unload 5;sail 4;turn");
        runScript(b, "limit 77;drill 99;drill 3");
        b.save();
        String saved = state(b);
        runScript(b, "load 4 3 2;shift 2 5;turn;sail 9;limit 50;drill 9;drill 99");
        due("56 another state", state(b).equals(saved), false);
        due("56 restore", b.restore(), 2);
        due("56 the saved state", state(b), saved);
        b.shift(2, 0);
        b.turn();
        due("56 restore again", b.restore(), 2);
        due("56 the saved state", state(b), saved);
        due("56 isConsistent", b.isConsistent(), true);
        due("56 the next number", b.load(3, 1, 0), 3);
    }

    private static void restoreForgetsChanges() {
        PillowBarge b = new PillowBarge();
        b.sail(1);
        b.save();
        b.sail(2);
        b.restore();
        dueThrow("56 undo after restore", ELEMENT, () -> b.undo());
        due("56 day", b.day(), 1);
        b.sail(3);
        due("56 undo after restore", b.undo(), 0);
        due("56 day", b.day(), 1);
        dueThrow("56 undo after restore", ELEMENT, () -> b.undo());
    }

    private static void whatRestoreLeaves() {
        PillowBarge b = new PillowBarge();
        b.save();
        b.load(2, 7, 4);
        b.renderStack(2);
        dueThrow("51 runScript", ARGUMENT, () -> runScript(b, "turn;x"));
        dueThrow("51 runScript", STATE, () -> runScript(b, "turn;sail 0"));
        type(b, "tur");
        due("56 restore", b.restore(), 0);
        due("56 the output text stays", output(b, 5), "0w7p4");
        due("56 the error position stays", b.errorPosition(), 5);
        due("56 the failed command stays", b.failedCommand(), 1);
        due("56 the script buffer stays", b.type('n'), 4);
        due("56 the script buffer stays", b.runScript(), 1);
        due("56 isAscending", b.isAscending(), false);
    }
}
