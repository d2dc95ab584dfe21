/** Promise 11: the number of the states that are reached. */
public final class Promise11StatesTest {
    private static final Check CHECK = new Check();

    public static void main(String[] args) {
        counts();
        limit();
        staysWhereItIs();
        CHECK.end();
    }

    private static void due(ReactWires x, int answer) {
        CHECK.same("states()", x.states(), answer);
    }

    private static void counts() {
        ReactWires x = new ReactWires();
        due(x, -1);
        CHECK.load(x, "1;", -1);
        due(x, -1);
        due(CHECK.load("0", 0), 1);
        due(CHECK.load("1", 1), 2);
        due(CHECK.load("!e;1;!f;1;!g", 2), 3);
        due(CHECK.load("*1", 2), 3);
        due(CHECK.load("?a1:1", 2), 3);
        // Nothing comes from an instant that is UNDECIDED.
        due(CHECK.load("?e!f:!e", 0), 1);
        due(CHECK.load("?e!e:0;1;1", 2), 1);
        due(CHECK.load("?a(?e!e:0):1;1;1", 3), 4);
        // What is never there is never reached.
        due(CHECK.load("?e1:0;1", 2), 2);
        due(CHECK.load("?a1:0|?b1:0|?c1:0|?d1:0", 4), 16);
        due(CHECK.load("1|?a1:0|?b1:0|?c1:0|?d1:0", 5), 17);
        due(CHECK.load("&a1|1", 2), 3);
        due(CHECK.load("{*(1;?a^2:0)};1", 3), 4);
    }

    private static void limit() {
        due(CHECK.load("1" + ";1".repeat(28), 29), 30);
        ReactWires x = CHECK.load("1" + ";1".repeat(29), 30);
        due(x, -2);
        due(x, -2);
        CHECK.same("look(0)", x.look(0), 1);
        CHECK.same("react(0)", x.react(0), 0);
        due(x, -2);
        CHECK.same("found(1)", x.found(1), 0);
        CHECK.same("registers(0)", x.registers(0), 1);
        CHECK.load(x, "1", 1);
        due(x, 2);
        due(CHECK.load("&a1|&b1|&c1|&d1|1", 5), 17);
        due(CHECK.load("&a(1;1)|&b(1;1)|&c(1;1)|&d(1;1)", 8), -2);
    }

    private static void staysWhereItIs() {
        ReactWires x = CHECK.load("!e;1;!f;?a(?g!g:0):1;!h", 2);
        due(x, 3);
        CHECK.same("look(0)", x.look(0), 1);
        CHECK.same("outputs()", x.outputs(), 0);
        CHECK.instant(x, 0, 0, 1, 0);
        due(x, 3);
        CHECK.same("look(0)", x.look(0), 2);
        CHECK.same("look(4)", x.look(4), 1);
        CHECK.same("registers(0)", x.registers(0), 1);
        CHECK.same("outputs()", x.outputs(), 1);
        CHECK.instant(x, 1, 2, 2, 12);
        int unknown = x.look(3);
        due(x, 3);
        CHECK.same("open()", x.open(), 12);
        CHECK.same("look(3)", x.look(3), unknown);
        CHECK.instant(x, 0, 0, 2, 0);
        CHECK.instant(x, 0, 1, 8, 0);
        due(x, 3);
        CHECK.same("look(0)", x.look(0), 3);
        CHECK.same("react(0)", x.react(0), -1);
        // A search does not touch the line.
        CHECK.type(x, "(1");
        due(x, 3);
        CHECK.load(x, ")", 1);
        due(x, 2);
    }
}
