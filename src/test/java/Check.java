/** What every test needs: a place to tell wrong answers, and short ways to type and load. */
final class Check {
    private int wrong = 0;

    void same(String call, long got, long due) {
        if (got != due) {
            wrong++;
            System.out.println(call + " answered " + got + ", due is " + due);
        }
    }

    void same(String call, boolean got, boolean due) {
        same(call, got ? 1 : 0, due ? 1 : 0);
    }

    /** Ends the test's program: exit code 1 if an answer was wrong. */
    void end() {
        if (wrong != 0) {
            System.out.println(wrong + " answers are not as due");
            System.exit(1);
        }
    }

    /** Loads the text into a new object and checks what load answers. */
    ReactWires load(String text, int due) {
        ReactWires x = new ReactWires();
        load(x, text, due);
        return x;
    }

    void load(ReactWires x, String text, int due) {
        type(x, text);
        same("load() of " + text, x.load(), due);
    }

    void type(ReactWires x, String text) {
        for (int i = 0; i < text.length(); i++) {
            same("type(" + text.charAt(i) + ")", x.type(text.charAt(i)), true);
        }
    }

    /** An instant, with all that is told of it. */
    void instant(ReactWires x, int inputs, int due, int outputs, int open) {
        same("react(" + inputs + ")", x.react(inputs), due);
        same("outputs() after react(" + inputs + ")", x.outputs(), outputs);
        same("open() after react(" + inputs + ")", x.open(), open);
    }
}
