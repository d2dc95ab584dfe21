/** Promise 10: look at where the program is, its size, and its latest instant. */
public final class Promise10LookTest {
    private static final Check CHECK = new Check();

    public static void main(String[] args) {
        where();
        sizes();
        unknown();
        instants();
        others();
        CHECK.end();
    }

    private static void due(ReactWires x, int what, int answer) {
        CHECK.same("look(" + what + ")", x.look(what), answer);
    }

    private static void where() {
        CHECK.sentence("0 no program, 1 at its beginning, 2 under way, 3 ended (what = 0)");
        ReactWires x = new ReactWires();
        due(x, 0, 0);
        CHECK.load(x, "1", 1);
        due(x, 0, 1);
        x.react(0);
        due(x, 0, 2);
        x.react(0);
        due(x, 0, 3);
        x.react(0);
        due(x, 0, 3);
        x.restart();
        due(x, 0, 1);
        // Nothing but a load, a restart or an instant that is decided moves it.
        CHECK.load(x, "1;", -1);
        x.wipe();
        x.react(16);
        x.states();
        due(x, 0, 1);
        CHECK.load(x, "?a(?e!e:0):0", 0);
        x.react(1);
        due(x, 0, 1);
        x.react(0);
        due(x, 0, 3);
    }

    private static void sizes() {
        CHECK.sentence("the things that are laid out (1); the registers (2)");
        Object[][] rows = {
            {"0", 1, 0}, {"(((0)))", 1, 0}, {"1;1", 3, 2}, {"1;1;1", 5, 3}, {"1|1|1", 5, 3}, {"{1}", 2, 1},
            {"?a1:(0;!e)", 5, 1}, {"&a1", 2, 1}, {"\\s1", 2, 1}, {"*1", 3, 2}, {"**1", 7, 4},
            {"*{1;^2}", 9, 2}, {"*(1;1)", 7, 4}, {"{*(1|^2)};0", 10, 2}, {"0;*(*1;0)", 13, 4},
        };
        for (Object[] row : rows) {
            ReactWires x = CHECK.load((String) row[0], (Integer) row[2]);
            due(x, 1, (Integer) row[1]);
            due(x, 2, (Integer) row[2]);
        }
    }

    private static void unknown() {
        CHECK.sentence("the wires that were UNKNOWN in the latest instant, of those named at AN INSTANT (3)");
        // K0 of the PRESENT; GO, K0 of both sides; the signals that they emit.
        unknown("?e!f:!e", 0, 2, 7);
        unknown("?e!e:0", 0, 2, 6);
        // The SEQ's K0, the second EMIT's GO and K0, g, and the six of the PRESENT.
        unknown("?e!e:0;!g", 0, 2, 10);
        // A PAUSE has K1 for GO; the K1 of what lies around it.
        unknown("?e!e:1", 0, 2, 7);
        unknown("{?e!e:1}", 0, 2, 9);
        // The wire of a LOCAL counts, but the second copy of a LOOP's UNIT is known here: its GO is 0.
        unknown("\\s(?s!e:0;!s)", 0, 2, 11);
        unknown("*(\\s(?s!s:0);1)", 0, 2, 11);
        // Both GO of a PAR are known; its K0 hangs on the side that is UNKNOWN.
        unknown("?e!e:0|0", 0, 2, 7);
        // K0 and K2 of the side, but K3 alone of the PAR, which waits for that side.
        unknown("{{^3|(?e!e:^2)}}", 0, 2, 10);
        unknown("!e;1", 0, 0, 0);
        // K1 of a SUSPEND that is not SELected is known, though its signal is not.
        ReactWires x = CHECK.load("1;?e!e:0|&e0", 1);
        CHECK.same("react(0)", x.react(0), 0);
        CHECK.same("react(0)", x.react(0), 2);
        due(x, 3, 8);
    }

    private static void unknown(String text, int inputs, int answer, int wires) {
        ReactWires x = new ReactWires();
        for (int i = 0; i < text.length(); i++) {
            x.type(text.charAt(i));
        }
        CHECK.same("load() of " + text, x.load() >= 0, true);
        due(x, 3, 0);
        CHECK.same("react(" + inputs + ") of " + text, x.react(inputs), answer);
        CHECK.same("look(3) of " + text, x.look(3), wires);
        x.states();
        x.restart();
        CHECK.same("look(3) after restart() of " + text, x.look(3), wires);
    }

    private static void instants() {
        CHECK.sentence("the instants that were decided since the beginning (4)");
        ReactWires x = CHECK.load("*(?a(?e!e:0):!f;1)", 2);
        due(x, 4, 0);
        x.react(1);
        due(x, 4, 0);
        for (int i = 1; i <= 5; i++) {
            x.react(0);
            due(x, 4, i);
            x.react(1);
            x.react(16);
            due(x, 4, i);
        }
        x.states();
        due(x, 4, 5);
        x.restart();
        due(x, 4, 0);
        x.react(0);
        due(x, 4, 1);
        CHECK.load(x, "0", 0);
        due(x, 4, 0);
        x.react(0);
        due(x, 4, 1);
        x.react(0);
        due(x, 4, 1);
    }

    private static void others() {
        CHECK.sentence("-1 for another what");
        int[] wrong = {-1, 5, 6, 100, Integer.MAX_VALUE, Integer.MIN_VALUE};
        for (int what : wrong) {
            due(new ReactWires(), what, -1);
            ReactWires x = CHECK.load("1", 1);
            due(x, what, -1);
            x.react(0);
            due(x, what, -1);
            x.react(0);
            due(x, what, -1);
        }
    }
}
