/** Promise 12: what the latest states() of this program found. */
public final class Promise12FoundTest {
    private static final Check CHECK = new Check();

    public static void main(String[] args) {
        tallies("0", 1, 0, 16, 0);
        tallies("!e;1;!f;1;!g", 3, 0, 16, 7);
        tallies("?e!f:!e", 1, 16, 0, 0);
        tallies("*(!h;1)", 3, 0, 0, 8);
        tallies("1;?a(?e!e:0):!g", 2, 8, 8, 4);
        tallies("?a0:(?b!e:1)", 2, 0, 8 + 4 + 16, 1);
        tallies("?a(?e!e:0):1;1", 3, 8, 16, 0);
        // What an UNDECIDED pair gives does not count, what an ending one gives does.
        tallies("?a(!h|(?e!e:0)):!f", 1, 8, 8, 2);
        // A state that is not reached has no pairs.
        tallies("?e(1;!f):0;1;!g", 2, 0, 16, 4);
        tallies("?a(?b(?c(?d(?e!e:0):0):0):0):0", 1, 1, 15, 0);
        tallies("&a(1;!e)|1", 3, 0, 8 + 8, 1);
        before();
        refused();
        CHECK.end();
    }

    private static void due(ReactWires x, int undecided, int ending, int outputs) {
        CHECK.same("found(0)", x.found(0), undecided);
        CHECK.same("found(1)", x.found(1), ending);
        CHECK.same("found(2)", x.found(2), outputs);
        int[] others = {-1, 3, 4, 100, Integer.MAX_VALUE, Integer.MIN_VALUE};
        for (int what : others) {
            CHECK.same("found(" + what + ")", x.found(what), 0);
        }
    }

    private static void tallies(String text, int states, int undecided, int ending, int outputs) {
        ReactWires x = new ReactWires();
        for (int i = 0; i < text.length(); i++) {
            x.type(text.charAt(i));
        }
        CHECK.same("load() of " + text, x.load() >= 0, true);
        due(x, 0, 0, 0);
        for (int again = 0; again < 2; again++) {
            CHECK.same("states() of " + text, x.states(), states);
            due(x, undecided, ending, outputs);
            x.react(5);
            due(x, undecided, ending, outputs);
        }
        x.restart();
        due(x, undecided, ending, outputs);
    }

    private static void before() {
        ReactWires x = new ReactWires();
        due(x, 0, 0, 0);
        CHECK.same("states()", x.states(), -1);
        due(x, 0, 0, 0);
        CHECK.load(x, "!e", 0);
        x.react(0);
        due(x, 0, 0, 0);
        CHECK.same("states()", x.states(), 1);
        due(x, 0, 16, 1);
        CHECK.load(x, "!e;", -1);
        due(x, 0, 16, 1);
        x.wipe();
        CHECK.load(x, "!e", 0);
        due(x, 0, 0, 0);
    }

    private static void refused() {
        ReactWires x = CHECK.load("!e", 0);
        CHECK.same("states()", x.states(), 1);
        CHECK.load(x, "!e;1" + ";1".repeat(28), 29);
        CHECK.same("states()", x.states(), 30);
        due(x, 0, 16, 1);
        CHECK.load(x, "?f!f:0|1" + ";1".repeat(26), 27);
        CHECK.same("states()", x.states(), 1);
        due(x, 16, 0, 0);
        CHECK.load(x, "1" + ";1".repeat(29), 30);
        CHECK.same("states()", x.states(), -2);
        due(x, 0, 0, 0);
    }
}
