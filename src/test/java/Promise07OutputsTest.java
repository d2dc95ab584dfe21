/** Promise 7: the outputs that were 1 in the latest instant. */
public final class Promise07OutputsTest {
    public static void main(String[] args) {
        Check check = new Check();
        check.same("outputs()", new ReactWires().outputs(), 0);
        String[] names = {"e", "f", "g", "h"};
        for (int i = 0; i < 4; i++) {
            ReactWires x = check.load("!" + names[i] + ";1;0", 1);
            check.same("outputs() before the first instant", x.outputs(), 0);
            check.instant(x, 0, 0, 1 << i, 0);
            check.same("outputs() again", x.outputs(), 1 << i);
            check.same("react(16)", x.react(16), -1);
            check.same("outputs() after a refused instant", x.outputs(), 1 << i);
            check.same("states()", x.states(), 2);
            check.same("outputs() after states()", x.outputs(), 1 << i);
            check.instant(x, 0, 1, 0, 0);
        }
        // Local signals and inputs are no outputs.
        ReactWires x = check.load("\\s\\t(!s;!t;!g)", 0);
        check.instant(x, 15, 1, 4, 0);
        // Of an UNDECIDED instant those that are 1 count, those that are UNKNOWN do not.
        x = check.load("!f;?e!e:0;!g", 0);
        check.instant(x, 0, 2, 2, 5);
        check.load(x, "0", 0);
        check.same("outputs() of another program", x.outputs(), 0);
        check.end();
    }
}
