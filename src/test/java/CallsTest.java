/** An object is used for at most 512 calls: it answers as it must up to the last of them. */
public final class CallsTest {
    private static final int MOST_CALLS = 512;
    private static final Check CHECK = new Check();

    public static void main(String[] args) {
        CHECK.sentence("An object is used for at most 512 calls after it has been made");
        instants();
        loads();
        searches();
        restarts();
        lines();
        CHECK.end();
    }

    private static void instants() {
        ReactWires x = CHECK.load("*(!e;1;!f;1)", 4);
        int reacts = MOST_CALLS - 13 - 1;
        for (int i = 0; i < reacts - 1; i++) {
            CHECK.same("react(0), the " + i + "th", x.react(0), 0);
        }
        CHECK.same("react(16)", x.react(16), -1);
        CHECK.same("look(4), the last call", x.look(4), reacts - 1);
    }

    private static void loads() {
        ReactWires x = new ReactWires();
        for (int i = 0; i < MOST_CALLS / 4; i++) {
            CHECK.same("type", x.type((char) ('0' + i % 2)), true);
            CHECK.same("load()", x.load(), i % 2);
            CHECK.same("react(0)", x.react(0), 1 - i % 2);
            CHECK.same("look(0)", x.look(0), 3 - i % 2);
        }
    }

    private static void searches() {
        ReactWires x = CHECK.load("1;1", 2);
        for (int i = 0; i < (MOST_CALLS - 4) / 2; i++) {
            CHECK.same("states()", x.states(), 3);
            CHECK.same("found(1)", x.found(1), 16);
        }
    }

    private static void restarts() {
        ReactWires x = CHECK.load("!e;1", 1);
        for (int i = 0; i < (MOST_CALLS - 5) / 3; i++) {
            CHECK.same("react(0)", x.react(0), 0);
            CHECK.same("registers(0)", x.registers(0), 1);
            CHECK.same("restart()", x.restart(), true);
        }
    }

    private static void lines() {
        ReactWires x = new ReactWires();
        for (int i = 0; i < MOST_CALLS / 64; i++) {
            for (int c = 0; c < 62; c++) {
                CHECK.same("type of the " + c + "th", x.type('0'), c < 60);
            }
            x.wipe();
            CHECK.same("load() of a wiped line", x.load(), -1);
        }
    }
}
