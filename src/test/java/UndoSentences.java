import java.util.ArrayList;
import java.util.List;

/** The sentences about changes, and those of promises 54 to 56. */
final class UndoSentences extends Sentences {
    static void test() {
        eachChange();
        changesWithoutEffect();
        noChanges();
        latestEight();
        latestFirst();
        coveredByUndo();
        replacedPillows();
        coveredBySnapshot();
        notCovered();
        nextNumber();
        exceptionsChangeNothing();
        undo();
        undoAndChangeInTurn();
        save();
        restore();
        restoreRefused();
        nothingToUndoAfterRestore();
    }

    /** One of each kind of change; all of them can be made in this order or alone after BUSY. */
    private static List<Calls> changes() {
        List<Calls> changes = new ArrayList<>();
        changes.add(b -> b.load(3, 2, 1));
        changes.add(b -> b.unload(2));
        changes.add(b -> b.shift(2, 4));
        changes.add(b -> b.sail(3));
        changes.add(b -> b.turn());
        changes.add(b -> b.setLimit(70));
        changes.add(b -> b.drill(99));
        changes.add(b -> runScript(b, "load 4 1 2;sail;turn;limit 45;drill 7;shift 4 3"));
        return changes;
    }

    /** A barge in port 1, with a pillow for port 1 on another one in bay 2, and nothing to undo. */
    private static final Calls READY = b -> {
        b.load(2, 4, 3);
        b.load(2, 5, 1);
        b.sail(1);
        FORGET.accept(b);
    };

    private static void dueOneChange(String detail, Calls before, Calls change) {
        Calls changed = before.then(change);
        answers(detail + " can be undone", 0, changed, b -> b.undo());
        Calls undone = changed.then(b -> b.undo());
        refusesElement(detail + " is one change", undone, b -> b.undo());
        holds("the state before " + detail, Probe.everything(undone), Probe.everything(before));
    }

    private static void eachChange() {
        terms("A change is a call of load, unload, shift, sail, turn, setLimit, drill or runScript");
        List<Calls> changes = changes();
        String[] names = {"load", "unload", "shift", "sail", "turn", "setLimit", "drill", "runScript"};
        for (int change = 0; change < names.length; change++) {
            String before = Probe.now(READY);
            dueOneChange(names[change], READY, changes.get(change));
            holds(names[change] + " has an effect", Probe.now(READY.then(changes.get(change))).equals(before), false);
        }
    }

    private static void changesWithoutEffect() {
        dueOneChange("setLimit to the same", READY, b -> b.setLimit(60));
        dueOneChange("a script of turns", READY, b -> runScript(b, "turn;turn"));
        dueOneChange("a script of shifts", READY, b -> runScript(b, "shift 2 3;shift 3 2"));
        dueOneChange("a script with the same limit", READY, b -> runScript(b, "limit 60"));
        dueOneChange("a script with many commands", READY,
                b -> runScript(b, "turn;turn;turn;turn;turn;turn;turn;turn;turn;turn;turn;turn"));
        answers("setLimit to the same nine times", 7, b -> {
            for (int change = 0; change < 9; change++) {
                b.setLimit(60);
            }
        }, b -> b.undo());
    }

    private static void noChange(String detail, Calls calls) {
        answers(detail + " is no change", "throws.NoSuchElementException", READY.then(calls), b -> b.undo());
        answers(detail + " takes no place", 0, FORGET.then(b -> b.turn()).then(calls), b -> b.undo());
    }

    private static void noChanges() {
        noChange("save", b -> b.save());
        noChange("type", b -> b.type('t'));
        noChange("renderStack", b -> b.renderStack(2));
        noChange("renderBarge", b -> b.renderBarge());
        noChange("questions", b -> {
            b.pillowCount();
            b.moment();
            b.momentByBays();
            b.isConsistent();
            b.unloadableCount();
            b.possibleShifts();
            b.levelingBay(5);
            b.portAfter(7);
            b.pairsInTheWay();
            b.pairsInTheWayByStacks();
        });
        noChange("a refused load", b -> outcome(() -> b.load(7, 1, 0)));
        noChange("a refused load", b -> outcome(() -> b.load(3, 1, 5)));
        noChange("a refused unload", b -> outcome(() -> b.unload(3)));
        noChange("a refused shift", b -> outcome(() -> b.shift(2, 2)));
        noChange("a refused sail", b -> outcome(() -> b.sail(0)));
        noChange("a refused setLimit", b -> outcome(() -> b.setLimit(9)));
        noChange("a refused drill", b -> outcome(() -> b.drill(100)));
        noChange("a malformed script", b -> outcome(() -> runScript(b, "turn;")));
        noChange("a failed script", b -> outcome(() -> runScript(b, "turn;sail 0")));
        noChange("a refused type", b -> outcome(() -> b.type((char) 31)));
        answers("restore", "throws.NoSuchElementException", READY.then(b -> b.restore()), b -> b.undo());
        answers("undo", "throws.NoSuchElementException", READY.then(b -> b.turn()).then(b -> b.undo()),
                b -> b.undo());
    }

    private static Calls sails(int changes) {
        return b -> {
            for (int legs = 1; legs <= changes; legs++) {
                b.sail(legs);
            }
        };
    }

    private static void latestEight() {
        terms("The latest 8 changes can be undone, the latest one first.");
        for (int changes = 0; changes <= 20; changes++) {
            int possible = Math.min(changes, 8);
            PillowBarge b = made(sails(changes));
            int day = changes * (changes + 1) / 2;
            for (int undone = 1; undone <= possible; undone++) {
                holds(changes + " changes, undo " + undone, b.undo(), possible - undone);
                day -= changes + 1 - undone;
                holds("the day", b.day(), day);
            }
            holds(changes + " changes, one undo more", outcome(() -> b.undo()), "throws.NoSuchElementException");
            holds("the day", b.day(), day);
        }
    }

    private static void latestFirst() {
        List<Calls> changes = changes();
        List<String> states = new ArrayList<>();
        Calls calls = READY;
        for (Calls change : changes) {
            states.add(Probe.now(calls));
            calls = calls.then(change);
        }
        for (int left = 7; left >= 0; left--) {
            answers("changes of all kinds", left, calls, b -> b.undo());
            calls = calls.then(b -> b.undo());
            holds("the state before change " + left, Probe.now(calls), states.get(left));
        }
        refusesElement("no more", calls, b -> b.undo());
    }

    private static void coveredByUndo() {
        terms("Undo and the snapshot cover everything except the script buffer, the error position");
        for (Calls change : changes()) {
            Calls before = READY.then(b -> b.turn()).then(b -> b.sail(5)).then(b -> b.drill(61));
            Calls undone = before.then(change).then(b -> b.undo());
            holds("all is as before", Probe.everything(undone), Probe.everything(before));
        }
        Calls saved = READY.then(b -> b.drill(99)).then(b -> b.save());
        Calls later = saved;
        for (Calls change : changes()) {
            later = later.then(change);
        }
        for (int undone = 0; undone < 8; undone++) {
            later = later.then(b -> b.undo());
        }
        holds("the state of all eight", Probe.now(later), Probe.now(saved));
        holds("the snapshot after all eight", Probe.snapshot(later), Probe.snapshot(saved));
    }

    /** Another pillow in each place: other numbers, weights, destinations and days. */
    private static Calls replaceAll(int weight) {
        return b -> {
            b.sail(5);
            for (int bay = 0; bay <= 6; bay++) {
                b.unload(bay);
                b.load(bay, weight, 3);
            }
        };
    }

    private static void replacedPillows() {
        for (int height = 1; height <= 5; height++) {
            int bottoms = height - 1;
            Calls before = b -> {
                for (int bay = 0; bay <= 6; bay++) {
                    stack(bay, bottoms).accept(b);
                    b.load(bay, 2, 0);
                }
                b.save();
            };
            Calls replaced = before.then(replaceAll(1));
            holds("another state", Probe.now(replaced).equals(Probe.now(before)), false);
            holds("restore brings the pillows back",
                    Probe.now(replaced.then(b -> b.restore())), Probe.now(before));
            Calls script = before.then(b -> runScript(b, "sail 5;unload 3;load 3 9 2;unload 2;load 2 8 1"));
            holds("undo brings the pillows back", Probe.now(script.then(b -> b.undo())), Probe.now(before));
            Calls failed = before.then(b -> outcome(
                    () -> runScript(b, "sail 5;unload 3;load 3 9 2;unload 2;load 2 8 1;sail 0")));
            holds("a failed script leaves the pillows", Probe.now(failed), Probe.now(before));
            Calls single = before.then(b -> b.sail(5)).then(b -> b.unload(6)).then(b -> b.load(6, 1, 4));
            holds("undo of each", Probe.now(single.then(b -> b.undo()).then(b -> b.undo()).then(b -> b.undo())),
                    Probe.now(before));
        }
    }

    private static void coveredBySnapshot() {
        for (Calls change : changes()) {
            Calls saved = READY.then(b -> b.drill(61)).then(b -> b.save());
            Calls restored = saved.then(change).then(b -> b.restore());
            holds("the state", Probe.now(restored), Probe.now(saved));
            holds("the snapshot itself", Probe.snapshot(restored), Probe.snapshot(saved));
        }
        Calls saved = BUSY.then(b -> b.save());
        Calls later = saved.then(b -> b.setLimit(99)).then(b -> b.load(3, 5, 2)).then(b -> b.sail(4))
                .then(b -> b.shift(2, 1)).then(b -> b.drill(99)).then(b -> b.unload(3)).then(b -> b.turn());
        holds("another state", Probe.now(later).equals(Probe.now(saved)), false);
        holds("all of the state", Probe.now(later.then(b -> b.restore())), Probe.now(saved));
    }

    /** All that is not covered: an output text, positions, a script of three characters and a snapshot. */
    private static final Calls NOT_COVERED = b -> {
        b.renderStack(2);
        outcome(() -> runScript(b, "turn;x"));
        outcome(() -> runScript(b, "turn;sail 0"));
        type(b, "tur");
    };

    private static void notCovered() {
        Calls undone = READY.then(b -> b.load(2, 3, 4)).then(b -> b.save()).then(NOT_COVERED).then(b -> b.undo());
        dueNotCovered("undo", undone);
        answers("the snapshot stays", 3, undone, b -> b.restore());
        answers("the snapshot stays", 4, undone.then(b -> b.restore()), b -> b.destinationOf(2));
        Calls restored = READY.then(b -> b.load(2, 3, 4)).then(NOT_COVERED).then(b -> b.restore());
        dueNotCovered("restore", restored);
        answers("the snapshot stays", 2, restored.then(b -> b.sail(1)), b -> b.restore());
        Calls early = READY.then(b -> b.load(2, 3, 4)).then(NOT_COVERED).then(b -> b.save())
                .then(b -> b.renderStack(0)).then(b -> outcome(() -> b.runScript()))
                .then(b -> outcome(() -> runScript(b, "sail 0"))).then(b -> type(b, "sail")).then(b -> b.restore());
        answers("the later output text", "throws.IndexOutOfBoundsException", early, b -> b.outputAt(0));
        answers("the later error position", 3, early, b -> b.errorPosition());
        answers("the later failed command", 0, early, b -> b.failedCommand());
        answers("the later script", 5, early, b -> b.type(';'));
    }

    private static void dueNotCovered(String name, Calls calls) {
        String text = "0w4p3 1w5p1 2w3p4";
        PillowBarge b = made(calls);
        for (int index = 0; index < text.length(); index++) {
            holds("the output text after " + name, b.outputAt(index), text.charAt(index));
        }
        holds("the end of the text after " + name, outcome(() -> b.outputAt(17)), "throws.IndexOutOfBoundsException");
        holds("the error position after " + name, b.errorPosition(), 5);
        holds("the failed command after " + name, b.failedCommand(), 1);
        holds("the script buffer after " + name, b.type('n'), 4);
        holds("the script after " + name, b.runScript(), 1);
        holds("its effect after " + name, b.isAscending(), false);
        holds("the pillows after " + name, b.pillowCount(), 2);
    }

    private static void nextNumber() {
        answers("after undo of a load", 2, READY.then(b -> b.load(3, 1, 0)).then(b -> b.undo()),
                b -> b.load(3, 1, 0));
        answers("after undo of two loads", 2, READY.then(b -> b.load(3, 1, 0)).then(b -> b.load(3, 1, 0))
                .then(b -> b.undo()).then(b -> b.undo()), b -> b.load(3, 1, 0));
        answers("after undo of an unload", 2, READY.then(b -> b.unload(2)).then(b -> b.undo()),
                b -> b.load(3, 1, 0));
        answers("after undo of a script", 2, READY.then(b -> runScript(b, "load 3 1 0;load 3 1 0"))
                .then(b -> b.undo()), b -> b.load(3, 1, 0));
        answers("after restore", 2, READY.then(b -> b.load(3, 1, 0)).then(b -> b.load(3, 1, 0))
                .then(b -> b.restore()), b -> b.load(3, 1, 0));
        answers("after restore of an unload", 2, READY.then(b -> b.unload(2)).then(b -> b.restore()),
                b -> b.load(3, 1, 0));
        answers("after a failed script", 2, READY.then(b -> outcome(() -> runScript(b, "load 3 1 0;sail 0"))),
                b -> b.load(3, 1, 0));
        answers("the pillow of the taken back number", 7, READY.then(b -> b.load(3, 1, 0)).then(b -> b.undo())
                .then(b -> b.load(4, 7, 0)), b -> b.weightOf(2));
    }

    private static void exceptionsChangeNothing() {
        terms("A method that throws an exception changes nothing unless its description says otherwise.");
        Ask[] refused = {
            b -> b.load(-1, 1, 0), b -> b.load(3, 21, 0), b -> b.load(3, 1, 5), b -> b.load(0, 20, 0),
            b -> b.unload(7), b -> b.unload(3), b -> b.unload(2),
            b -> b.shift(0, 7), b -> b.shift(2, 2), b -> b.shift(3, 4), b -> b.sail(21),
            b -> b.setLimit(100), b -> b.drill(-100),
            b -> b.stackHeight(7), b -> b.pillowAt(7, 0), b -> b.pillowAt(2, 2), b -> b.weightOf(99),
            b -> b.destinationOf(99), b -> b.bayOf(99), b -> b.positionOf(99), b -> b.ageOf(99),
            b -> b.weightFor(5), b -> b.levelingBay(21), b -> b.legsTo(5), b -> b.portAfter(100),
            b -> b.pillowsInTheWay(99), b -> b.oldestIn(7), b -> b.oldestIn(3), b -> b.pillowByTurn(5),
            b -> b.bayByWeight(7), b -> b.renderStack(7), b -> b.outputAt(60), b -> b.type((char) 127),
        };
        Calls all = BUSY;
        for (int call = 0; call < refused.length; call++) {
            Ask ask = refused[call];
            String got = outcome(() -> ask.of(made(BUSY))).toString();
            holds("call " + call + " throws, but answers " + got, got.startsWith("throws."), true);
            all = all.then(b -> outcome(() -> ask.of(b)));
        }
        holds("all refused calls in a row", Probe.everything(all), Probe.everything(BUSY));
    }

    private static void undo() {
        says(54, "Undoes the latest change that has not been undone.", "Returns the number of changes that can still");
        answers("one of one", 0, sails(1), b -> b.undo());
        answers("one of two", 1, sails(2), b -> b.undo());
        answers("one of eight", 7, sails(8), b -> b.undo());
        answers("one of nine", 7, sails(9), b -> b.undo());
        answers("two of nine", 6, sails(9).then(b -> b.undo()), b -> b.undo());
        answers("the latest", 3, sails(3).then(b -> b.undo()), b -> b.day());
        answers("not the undone one again", 1, sails(3).then(b -> b.undo()).then(b -> b.undo()), b -> b.day());
        answers("a change after undo", 3, sails(3).then(b -> b.undo()).then(b -> b.sail(20)).then(b -> b.undo()),
                b -> b.day());
        answers("the one before", 1, sails(3).then(b -> b.undo()).then(b -> b.sail(20)).then(b -> b.undo())
                .then(b -> b.undo()), b -> b.day());
        says(54, "Throws `NoSuchElementException` if there is nothing to undo");
        refusesElement("no change yet", EMPTY, b -> b.undo());
        refusesElement("no change left", sails(1).then(b -> b.undo()), b -> b.undo());
        refusesElement("no change after restore", FORGET.then(b -> b.turn()).then(b -> b.restore()), b -> b.undo());
        Calls all = sails(9);
        for (int undone = 0; undone < 8; undone++) {
            all = all.then(b -> b.undo());
        }
        answers("the first of nine stays", 1, all, b -> b.day());
        refusesElement("the first of nine", all, b -> b.undo());
    }

    /** Longer than the eight places, so that each of them is used again. */
    private static void undoAndChangeInTurn() {
        says(54, "Undoes the latest change that has not been undone.");
        for (int undone = 1; undone <= 8; undone++) {
            PillowBarge b = made(sails(8));
            List<Integer> days = new ArrayList<>(List.of(0, 1, 3, 6, 10, 15, 21, 28));
            for (int round = 0; round < 12; round++) {
                for (int time = 0; time < undone; time++) {
                    int due = days.remove(days.size() - 1);
                    holds("undo", b.undo(), days.size());
                    holds("the day", b.day(), due);
                }
                for (int time = 0; time < undone; time++) {
                    days.add(b.day());
                    b.sail(round + time + 1);
                }
            }
        }
    }

    private static void save() {
        says(55, "Takes a snapshot, which replaces an earlier one.", "Returns the number of pillows on the barge.");
        answers("no pillow", 0, EMPTY, b -> b.save());
        answers("one pillow", 1, stack(0, 1), b -> b.save());
        answers("all pillows", 35, full(), b -> b.save());
        answers("after an unload", 34, full().then(b -> b.unload(0)), b -> b.save());
        Calls twice = stack(0, 1).then(b -> b.save()).then(stack(0, 1)).then(b -> b.save()).then(stack(0, 1));
        answers("the later one", 2, twice, b -> b.restore());
        answers("the later one, again", 2, twice.then(b -> b.restore()).then(b -> b.turn()), b -> b.restore());
        answers("the later one has fewer pillows", 0, stack(0, 1).then(b -> b.save()).then(b -> b.undo())
                .then(b -> b.save()), b -> b.restore());
        holds("the state stays", Probe.covered(BUSY.then(b -> b.save())), Probe.covered(BUSY));
        holds("the rest stays", Probe.rest(BUSY.then(b -> b.save())), Probe.rest(BUSY));
        holds("later changes do not reach it",
                Probe.snapshot(BUSY.then(b -> b.save()).then(b -> b.load(3, 9, 1)).then(b -> b.shift(2, 4))
                        .then(b -> b.sail(3)).then(b -> b.turn()).then(b -> b.drill(1)).then(b -> b.setLimit(80))),
                Probe.snapshot(BUSY.then(b -> b.save())));
    }

    private static void restore() {
        says(56, "Restores the snapshot, which is kept.", "Returns the number of pillows on the barge.");
        answers("no pillow", 0, b -> b.save(), b -> b.restore());
        answers("no pillow", 0, stack(0, 0).then(b -> b.save()).then(full()), b -> b.restore());
        answers("one pillow", 1, stack(0, 1).then(b -> b.save()).then(stack(1, 3)), b -> b.restore());
        answers("all pillows", 35, full().then(b -> b.save()).then(b -> b.unload(0)), b -> b.restore());
        Calls saved = READY.then(b -> b.sail(2)).then(b -> b.drill(61)).then(b -> b.save());
        Calls later = saved;
        for (int round = 0; round < 4; round++) {
            for (Calls change : changes()) {
                later = later.then(b -> outcome(() -> {
                    change.accept(b);
                    return "";
                }));
            }
            later = later.then(b -> b.restore());
            holds("round " + round, Probe.now(later), Probe.now(saved));
        }
        answers("it is kept by undo", 3, READY.then(b -> b.load(3, 1, 1)).then(b -> b.save()).then(b -> b.undo()),
                b -> b.restore());
    }

    private static void restoreRefused() {
        says(56, "Throws `IllegalStateException` if there is no snapshot");
        refusesState("a new object", EMPTY, b -> b.restore());
        refusesState("changes and no snapshot", sails(9), b -> b.restore());
        refusesState("undo and no snapshot", sails(9).then(b -> b.undo()), b -> b.restore());
        answers("a snapshot of the empty barge", 0, b -> b.save(), b -> b.restore());
    }

    private static void nothingToUndoAfterRestore() {
        says(56, "Afterwards there is nothing to undo.");
        for (int number = 0; number <= 10; number++) {
            int changes = number;
            Calls restored = sails(3).then(b -> b.save()).then(sails(changes)).then(b -> b.restore());
            refusesElement(changes + " changes since", restored, b -> b.undo());
            answers("the day", 6, restored, b -> b.day());
            int possible = Math.min(changes, 8);
            if (changes > 0) {
                answers("changes afterwards", possible - 1, restored.then(sails(changes)), b -> b.undo());
            }
            Calls undone = restored.then(sails(changes));
            for (int time = 0; time < possible; time++) {
                undone = undone.then(b -> b.undo());
            }
            refusesElement("and no more than these", undone, b -> b.undo());
        }
        refusesElement("restore at once", b -> b.save(), b -> b.undo());
    }
}
