/** Promise 7: the outputs that were 1 in the latest instant. */
public final class Promise07OutputsTest {
    public static void main(String[] args) {
        Check check = new Check();
        check.sentence("The outputs that were 1 in the latest instant of this program: e 1, f 2, g 4, h 8");
        check.same("outputs()", new ReactWires().outputs(), 0);
        String[] names = {"e", "f", "g", "h"};
        for (int i = 0; i < 4; i++) {
            ReactWires x = check.load("!" + names[i] + ";1;0", 1);
            check.same("outputs() before the first instant", x.outputs(), 0);
            check.instant(x, 0, 0, 1 << i, 0);
            check.same("outputs() again", x.outputs(), 1 << i);
            check.same("react(16)", x.react(16), -1);
            check.same("outputs() after a refused instant", x.outputs(), 1 << i);
            check.same("states()", x.states(), 2);
            check.same("outputs() after states()", x.outputs(), 1 << i);
            check.instant(x, 0, 1, 0, 0);
        }
        // Local signals and inputs are no outputs.
        ReactWires x = check.load("\\s\\t(!s;!t;!g)", 0);
        check.instant(x, 15, 1, 4, 0);
        for (int inputs = 0; inputs < 16; inputs++) {
            x = check.load("?a!e:0;?b!f:0;?c!g:0;?d!h:0", 0);
            check.instant(x, inputs, 1, inputs, 0);
            check.same("react(0) after the end", x.react(0), -1);
            check.same("outputs() after a refused instant", x.outputs(), inputs);
            check.same("restart()", x.restart(), true);
            check.same("outputs() after restart()", x.outputs(), inputs);
            check.load(x, "!x", -2);
            check.same("outputs() after a refused load", x.outputs(), inputs);
        }
        check.sentence("those that were UNKNOWN count for nothing");
        // Of an UNDECIDED instant those that are 1 count, those that are UNKNOWN do not.
        x = check.load("!f;?e!e:0;!g", 0);
        check.instant(x, 0, 2, 2, 5);
        x = check.load("!f;!h;?e!e:0;!g", 0);
        check.instant(x, 0, 2, 2 + 8, 1 + 4);
        check.sentence("0 before the first one");
        check.load(x, "!e", 0);
        check.same("outputs() of another program", x.outputs(), 0);
        check.same("react(16)", x.react(16), -1);
        check.same("outputs() of another program", x.outputs(), 0);
        check.same("restart()", x.restart(), true);
        check.same("outputs() of another program", x.outputs(), 0);
        check.end();
    }
}
