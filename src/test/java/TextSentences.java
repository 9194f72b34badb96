/** The sentences of promises 47 to 50: the output text and the script buffer. */
final class TextSentences extends Sentences {
    private static final int LEAST = Integer.MIN_VALUE;
    private static final int GREATEST = Integer.MAX_VALUE;

    static void test() {
        renderStack();
        renderStackRefused();
        renderBarge();
        outputAt();
        type();
        typeRefused();
    }

    private static void dueText(String detail, String text, Calls before, Ask render) {
        PillowBarge b = made(before);
        holds(detail + ", the length", render.of(b), text.length());
        for (int index = 0; index < text.length(); index++) {
            holds(detail + ", character " + index, b.outputAt(index), text.charAt(index));
        }
        holds(detail + ", the end", outcome(() -> b.outputAt(text.length())), "throws.IndexOutOfBoundsException");
    }

    private static void renderStack() {
        says(47, "Replaces the output text by a description of a stack", "Returns the length of the output text.");
        Calls example = b -> {
            b.load(3, 12, 3);
            for (int bay : new int[] {0, 1, 2, 4, 5, 6}) {
                b.load(bay, 1, 0);
            }
            b.load(3, 5, 0);
        };
        dueText("the document's", "0w12p3 7w5p0", example, b -> b.renderStack(3));
        dueText("one pillow", "0w20p4", b -> b.load(6, 20, 4), b -> b.renderStack(6));
        dueText("five pillows", "0w1p0 1w1p0 2w1p0 3w1p0 4w1p0", stack(0, 5), b -> b.renderStack(0));
        dueText("two digits", "6w1p0 13w1p0 20w1p0 27w1p0 34w1p0", full(), b -> b.renderStack(6));
        dueText("the greatest numbers", "100w20p4", b -> {
            for (int pillow = 0; pillow < 100; pillow++) {
                b.load(3, 1, 0);
                b.unload(3);
            }
            b.load(3, 20, 4);
        }, b -> b.renderStack(3));
        dueText("a shorter text replaces a longer one", "0w1p0",
                stack(0, 1).then(stack(1, 5)).then(b -> b.renderStack(1)), b -> b.renderStack(0));
        dueText("a text replaces that of the barge", "0w1p0",
                stack(0, 1).then(b -> b.renderBarge()), b -> b.renderStack(0));

        says(47, "The text is empty for an empty stack.");
        for (int number = 0; number <= 6; number++) {
            int bay = number;
            dueText("bay " + bay, "", EMPTY, b -> b.renderStack(bay));
            dueText("bay " + bay + " replaces a text", "", b -> b.renderBarge(), b -> b.renderStack(bay));
            dueText("bay " + bay + " after an unload", "", stack(bay, 1).then(b -> b.renderStack(bay))
                    .then(b -> b.unload(bay)), b -> b.renderStack(bay));
        }
    }

    private static void renderStackRefused() {
        says(47, "Throws `IndexOutOfBoundsException` if there is no such bay");
        for (int bay : new int[] {-1, 7, LEAST, GREATEST}) {
            refusesIndex("bay " + bay, EMPTY, b -> b.renderStack(bay));
            refusesIndex("bay " + bay, BUSY, b -> b.renderStack(bay));
            refusesIndex("bay " + bay, full().then(b -> b.renderBarge()), b -> b.renderStack(bay));
        }
        dueText("bay 0", "0w1p0", stack(0, 1), b -> b.renderStack(0));
        dueText("bay 6", "0w1p0", stack(6, 1), b -> b.renderStack(6));
    }

    private static void renderBarge() {
        says(48, "Replaces the output text by the weights of all bays in index order", "Returns the length");
        dueText("no pillow", "0 0 0 0 0 0 0=0", EMPTY, b -> b.renderBarge());
        dueText("the document's", "0 12 0 5 0 0 20=36", b -> {
            b.load(1, 12, 0);
            b.load(6, 20, 0);
            b.load(3, 2, 0);
            b.load(3, 3, 0);
        }, b -> b.renderBarge());
        dueText("all different", "1 2 3 4 5 6 7=28", b -> {
            for (int bay = 0; bay < 7; bay++) {
                b.load(bay, bay + 1, 0);
            }
        }, b -> b.renderBarge());
        dueText("full", "5 5 5 5 5 5 5=0", full(), b -> b.renderBarge());
        dueText("heaviest", "100 100 100 100 100 100 100=0", b -> {
            for (int pillow = 0; pillow < 35; pillow++) {
                b.load(new int[] {3, 2, 4, 1, 5, 0, 6}[pillow % 7], 20, 0);
            }
        }, b -> b.renderBarge());
        dueText("the least moment", "33 0 0 0 0 0 0=-99", tilted(-99, 99), b -> b.renderBarge());
        dueText("the greatest moment", "0 0 0 0 0 0 33=99", tilted(99, 99), b -> b.renderBarge());
        dueText("moment -1", "0 0 1 0 0 0 0=-1", stack(2, 1), b -> b.renderBarge());
        dueText("again", "0 0 1 0 0 0 0=-1", stack(2, 1).then(b -> b.renderBarge()), b -> b.renderBarge());
        dueText("after the text of a stack", "5 0 0 0 0 0 0=-15", stack(0, 5).then(b -> b.renderStack(0)),
                b -> b.renderBarge());
    }

    private static void outputAt() {
        says(49, "Returns a character of the output text, which is empty initially.", "Returns the character.");
        refusesIndex("initially", EMPTY, b -> b.outputAt(0));
        refusesIndex("initially, with pillows", full(), b -> b.outputAt(0));
        Calls rendered = stack(0, 1).then(b -> b.renderBarge());
        answers("first", '1', rendered, b -> b.outputAt(0));
        answers("second", ' ', rendered, b -> b.outputAt(1));
        answers("last", '3', rendered, b -> b.outputAt(15));
        answers("the text stays as it was", '3', rendered.then(b -> b.unload(0)), b -> b.outputAt(15));
        says(49, "Throws `IndexOutOfBoundsException` if there is no such index");
        for (int index : new int[] {-1, 16, 17, LEAST, GREATEST}) {
            refusesIndex("index " + index + " of 16", rendered, b -> b.outputAt(index));
        }
        for (int index : new int[] {-1, 0, 1, LEAST, GREATEST}) {
            refusesIndex("index " + index + " of 0", rendered.then(b -> b.renderStack(3)), b -> b.outputAt(index));
        }
        answers("index 4 of 5", '0', rendered.then(b -> b.renderStack(0)), b -> b.outputAt(4));
        refusesIndex("index 5 of 5 after 16", rendered.then(b -> b.renderStack(0)), b -> b.outputAt(5));
    }

    private static void type() {
        says(50, "Appends a character to the script buffer.", "Returns the length of the script buffer.");
        PillowBarge b = new PillowBarge();
        for (int length = 1; length <= 60; length++) {
            holds("length " + length, b.type((char) (31 + length)), length);
        }
        answers("at the end", 1, script("tur").then(c -> c.type('n')), c -> c.runScript());
        answers("after a script", 1, script("turn").then(c -> c.runScript()), c -> c.type('t'));
        answers("after a malformed script", 1, script("x").then(c -> outcome(() -> c.runScript())), c -> c.type('t'));
        answers("after a failed script", 1, script("sail 0").then(c -> outcome(() -> c.runScript())),
                c -> c.type('t'));

        says(50, "Throws `IllegalArgumentException` if the character code is not between 32 and 126");
        for (int code = 0; code <= 65535; code++) {
            char character = (char) code;
            boolean typed = code >= 32 && code <= 126;
            answers("code " + code, typed ? 1 : "throws.IllegalArgumentException", EMPTY, c -> c.type(character));
        }
        for (int code : new int[] {0, 31, 127, 128, 255, 256 + 32, 65535}) {
            refusesArgument("code " + code, EMPTY, c -> c.type((char) code));
            refusesArgument("code " + code, BUSY, c -> c.type((char) code));
        }
    }

    private static void typeRefused() {
        says(50, "Throws `IllegalStateException` if the script buffer has 60 characters");
        String text = "load 3 20 0;load 3 20 0;load 3 20 0;load 3 20 0;turn;sail 10";
        for (int length = 0; length < 60; length++) {
            answers("to " + length, length + 1, script(text.substring(0, length)), b -> b.type('x'));
        }
        refusesState("to 60", script(text), b -> b.type('0'));
        refusesState("to 60", script(text), b -> b.type(' '));
        refusesState("to 60", script(text), b -> b.type('~'));
        answers("the 60 characters run", 6,
                script(text).then(b -> outcome(() -> b.type('0'))), b -> b.runScript());
        answers("there is room again", 1, script(text).then(b -> b.runScript()), b -> b.type('0'));

        terms("A script is typed into a buffer of at most 60 characters and then run.");
        answers("60 characters", 6, script(text), b -> b.runScript());
        answers("59 characters", 6, script(text.substring(0, 59)), b -> b.runScript());
        refusesState("61 characters", script(text), b -> b.type(';'));
    }
}
