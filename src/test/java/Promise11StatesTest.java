/** Promise 11: the number of the states that are reached. */
public final class Promise11StatesTest {
    private static final Check CHECK = new Check();

    public static void main(String[] args) {
        counts();
        limit();
        limitByALateState();
        limitBySeveralWays();
        staysWhereItIs();
        CHECK.end();
    }

    private static void due(ReactWires x, int answer) {
        CHECK.same("states()", x.states(), answer);
    }

    private static void counts() {
        CHECK.sentence("Looks through the states that are reached: how many there are; -1 (refused) if there is no program");
        ReactWires x = new ReactWires();
        due(x, -1);
        CHECK.load(x, "1;", -1);
        due(x, -1);
        due(CHECK.load("0", 0), 1);
        due(CHECK.load("1", 1), 2);
        due(CHECK.load("!e;1;!f;1;!g", 2), 3);
        due(CHECK.load("*1", 2), 3);
        due(CHECK.load("?a1:1", 2), 3);
        // Nothing comes from an instant that is UNDECIDED.
        due(CHECK.load("?e!f:!e", 0), 1);
        due(CHECK.load("?e!e:0;1;1", 2), 1);
        due(CHECK.load("?a(?e!e:0):1;1;1", 3), 4);
        // What is never there is never reached.
        due(CHECK.load("?e1:0;1", 2), 2);
        due(CHECK.load("?a1:0|?b1:0|?c1:0|?d1:0", 4), 16);
        due(CHECK.load("1|?a1:0|?b1:0|?c1:0|?d1:0", 5), 17);
        due(CHECK.load("&a1|1", 2), 3);
        due(CHECK.load("{*(1;?a^2:0)};1", 3), 4);
    }

    private static void limit() {
        CHECK.sentence("-2 if there are more than 30");
        due(CHECK.load("1" + ";1".repeat(27), 28), 29);
        due(CHECK.load("1" + ";1".repeat(28), 29), 30);
        ReactWires x = CHECK.load("1" + ";1".repeat(29), 30);
        due(x, -2);
        due(x, -2);
        CHECK.same("look(0)", x.look(0), 1);
        CHECK.same("react(0)", x.react(0), 0);
        due(x, -2);
        CHECK.same("found(1)", x.found(1), 0);
        CHECK.same("registers(0)", x.registers(0), 1);
        CHECK.load(x, "1", 1);
        due(x, 2);
        due(CHECK.load("&a1|&b1|&c1|&d1|1", 5), 17);
        due(CHECK.load("&a(1;1)|&b(1;1)|&c(1;1)|&d(1;1)", 8), -2);
    }

    /** The last state of all is reached from the last one but one, and with inputs 15 or 0 alone. */
    private static void limitByALateState() {
        CHECK.sentence("-2 if there are more than 30");
        for (String last : new String[] {"?a?b?c?d1:0:0:0:0", "?a0:?b0:?c0:?d0:1"}) {
            // The beginning, the first pauses, and 12 and one more in each copy of the LOOP.
            String loop = "*(" + "1;".repeat(12) + last + ")";
            due(CHECK.load("1;" + loop, 27), 28);
            due(CHECK.load("1;1;1;" + loop, 29), 30);
            due(CHECK.load("1;1;1;1;" + loop, 30), -2);
            due(CHECK.load("{1;1;1;" + loop + "};1", 30), 30);
        }
    }

    private static void limitBySeveralWays() {
        CHECK.sentence("-2 if there are more than 30");
        due(CHECK.load("?a1:0|?b1:0|?c1:0|?d1:0;1", 5), 17);
        due(CHECK.load("?a1:0|?b1:0|?c1:0|?d1:0;1" + ";1".repeat(13), 18), 30);
        due(CHECK.load("?a1:0|?b1:0|?c1:0|?d1:0;1" + ";1".repeat(14), 19), -2);
        due(CHECK.load("&a1|&b1|&c1|&d1;1" + ";1".repeat(13), 18), 30);
        due(CHECK.load("&a1|&b1|&c1|&d1;1" + ";1".repeat(14), 19), -2);
        // An end takes no place beside the thirty, and an instant that is UNDECIDED none either.
        due(CHECK.load("?a1:0|?b1:0|?c1:0|?d1:0;1" + ";1".repeat(13) + ";!e", 18), 30);
        due(CHECK.load("?a1:0|?b1:0|?c1:0|?d1:0;1" + ";1".repeat(12) + ";1;?e!e:0", 18), 30);
    }

    private static void staysWhereItIs() {
        CHECK.sentence("The program stays where it is");
        ReactWires x = CHECK.load("!e;1;!f;?a(?g!g:0):1;!h", 2);
        due(x, 3);
        CHECK.same("look(0)", x.look(0), 1);
        CHECK.same("outputs()", x.outputs(), 0);
        CHECK.instant(x, 0, 0, 1, 0);
        due(x, 3);
        CHECK.same("look(0)", x.look(0), 2);
        CHECK.same("look(4)", x.look(4), 1);
        CHECK.same("registers(0)", x.registers(0), 1);
        CHECK.same("outputs()", x.outputs(), 1);
        CHECK.instant(x, 1, 2, 2, 12);
        int unknown = x.look(3);
        due(x, 3);
        CHECK.same("open()", x.open(), 12);
        CHECK.same("look(3)", x.look(3), unknown);
        CHECK.instant(x, 0, 0, 2, 0);
        CHECK.instant(x, 0, 1, 8, 0);
        due(x, 3);
        CHECK.same("look(0)", x.look(0), 3);
        CHECK.same("react(0)", x.react(0), -1);
        // A search does not touch the line.
        CHECK.type(x, "(1");
        due(x, 3);
        CHECK.load(x, ")", 1);
        due(x, 2);
    }
}
