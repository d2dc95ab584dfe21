/** What every test needs: a place to tell wrong answers, and short ways to type and load. */
final class Check {
    private int wrong = 0;
    private String sentence = "";

    /** The sentence of the document that the next calls are about: a wrong answer is told with it. */
    void sentence(String text) {
        sentence = "\"" + text + "\": ";
    }

    void same(String call, long got, long due) {
        if (got != due) {
            tellWrong(call, Long.toString(got), Long.toString(due));
        }
    }

    void same(String call, boolean got, boolean due) {
        same(call, got ? 1 : 0, due ? 1 : 0);
    }

    void same(String call, String got, String due) {
        if (!got.equals(due)) {
            tellWrong(call, got, due);
        }
    }

    private void tellWrong(String call, String got, String due) {
        wrong++;
        System.out.println(sentence + call + " answered " + got + ", due is " + due);
    }

    /** Ends the test's program: exit code 1 if an answer was wrong. */
    void end() {
        if (wrong != 0) {
            System.out.println(wrong + " answers are not as due");
            System.exit(1);
        }
    }

    /** Loads the text into a new object and checks what load answers. */
    ReactWires load(String text, int due) {
        ReactWires x = new ReactWires();
        load(x, text, due);
        return x;
    }

    void load(ReactWires x, String text, int due) {
        type(x, text);
        same("load() of " + text, x.load(), due);
    }

    /** Each text into a new object of its own. */
    void loads(int due, String... texts) {
        for (String text : texts) {
            load(text, due);
        }
    }

    void type(ReactWires x, String text) {
        for (int i = 0; i < text.length(); i++) {
            same("type(" + text.charAt(i) + ")", x.type(text.charAt(i)), true);
        }
    }

    /** An instant, with all that is told of it. */
    void instant(ReactWires x, int inputs, int due, int outputs, int open) {
        same("react(" + inputs + ")", x.react(inputs), due);
        same("outputs() after react(" + inputs + ")", x.outputs(), outputs);
        same("open() after react(" + inputs + ")", x.open(), open);
    }

    /** An instant that is decided, and the registers after it. */
    void step(ReactWires x, int inputs, int due, int registers) {
        same("react(" + inputs + ")", x.react(inputs), due);
        same("registers(0) after react(" + inputs + ")", x.registers(0), registers);
    }

    /** Whether typing goes on until sixty are in the line: the number of those that it takes. */
    void room(ReactWires x, int due) {
        same("the characters that the line still takes", fill(x), due);
    }

    /** Types until the line is full: how many it took. */
    static int fill(ReactWires x) {
        int taken = 0;
        while (taken < 100 && x.type('0')) {
            taken++;
        }
        return taken;
    }

    /** All that an object shows without being changed: 18 calls. */
    static String view(ReactWires x) {
        StringBuilder text = new StringBuilder();
        text.append("outputs ").append(x.outputs()).append(", open ").append(x.open()).append(", registers");
        for (int part = -1; part <= 2; part++) {
            text.append(' ').append(x.registers(part));
        }
        text.append(", look");
        for (int what = -1; what <= 5; what++) {
            text.append(' ').append(x.look(what));
        }
        text.append(", found");
        for (int what = -1; what <= 3; what++) {
            text.append(' ').append(x.found(what));
        }
        return text.toString();
    }
}
