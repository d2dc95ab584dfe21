/** Promise 3: wipe makes the line empty, and does nothing else. */
public final class Promise03WipeTest {
    private static final Check CHECK = new Check();

    public static void main(String[] args) {
        emptyAlready();
        begun();
        full();
        programStays();
        CHECK.end();
    }

    private static void emptyAlready() {
        CHECK.sentence("Makes the line empty");
        ReactWires x = new ReactWires();
        x.wipe();
        x.wipe();
        CHECK.same("load() of a wiped line", x.load(), -1);
        CHECK.same("look(0)", x.look(0), 0);
        x.wipe();
        CHECK.room(x, 60);
    }

    private static void begun() {
        CHECK.sentence("Makes the line empty");
        ReactWires x = new ReactWires();
        CHECK.type(x, "(((");
        x.wipe();
        CHECK.same("load() of a wiped line", x.load(), -1);
        CHECK.load(x, "!e;1;!f", 1);
        // A line that was refused is wiped too.
        CHECK.load(x, "1;;", -1);
        x.wipe();
        CHECK.load(x, "1", 1);
        CHECK.type(x, "1");
        x.wipe();
        CHECK.room(x, 60);
    }

    private static void full() {
        CHECK.sentence("Makes the line empty");
        ReactWires x = new ReactWires();
        CHECK.type(x, "x".repeat(60));
        CHECK.same("type of a 61st", x.type('0'), false);
        x.wipe();
        CHECK.room(x, 60);
        x.wipe();
        CHECK.load(x, "0", 0);
    }

    private static void programStays() {
        CHECK.sentence("Makes the line empty");
        ReactWires x = CHECK.load("!e;1;?a(?f!f:0):0;1;!g", 2);
        int[] inputs = {0, 1, 0, 0};
        for (int i : inputs) {
            CHECK.same("states()", x.states(), 3);
            String before = Check.view(x);
            CHECK.type(x, "0;0");
            x.wipe();
            CHECK.same("what it shows", Check.view(x), before);
            CHECK.same("react(" + i + ")", x.react(i) >= 0, true);
        }
        x.wipe();
        CHECK.same("look(0)", x.look(0), 3);
        CHECK.same("outputs()", x.outputs(), 4);
        CHECK.same("load() of a wiped line", x.load(), -1);
    }
}
