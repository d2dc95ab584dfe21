/** Promise 12: what the latest states() of this program found. */
public final class Promise12FoundTest {
    private static final Check CHECK = new Check();

    public static void main(String[] args) {
        CHECK.sentence("pairs that are UNDECIDED (what = 0), that end the program (1), the outputs that some decided pair gives (2)");
        tallies("0", 1, 0, 16, 0);
        tallies("!e;1;!f;1;!g", 3, 0, 16, 7);
        tallies("?e!f:!e", 1, 16, 0, 0);
        tallies("*(!h;1)", 3, 0, 0, 8);
        tallies("1;?a(?e!e:0):!g", 2, 8, 8, 4);
        tallies("?a0:(?b!e:1)", 2, 0, 8 + 4 + 16, 1);
        tallies("?a(?e!e:0):1;1", 3, 8, 16, 0);
        // What an UNDECIDED pair gives does not count, what an ending one gives does.
        tallies("?a(!h|(?e!e:0)):!f", 1, 8, 8, 2);
        // A state that is not reached has no pairs.
        tallies("?e(1;!f):0;1;!g", 2, 0, 16, 4);
        tallies("?a(?b(?c(?d(?e!e:0):0):0):0):0", 1, 1, 15, 0);
        tallies("&a(1;!e)|1", 3, 0, 8 + 8, 1);
        onePair();
        outputBits();
        manyPairs();
        before();
        refused();
        CHECK.end();
    }

    private static void due(ReactWires x, int undecided, int ending, int outputs) {
        CHECK.same("found(0)", x.found(0), undecided);
        CHECK.same("found(1)", x.found(1), ending);
        CHECK.same("found(2)", x.found(2), outputs);
        int[] others = {-1, 3, 4, 100, Integer.MAX_VALUE, Integer.MIN_VALUE};
        for (int what : others) {
            CHECK.same("found(" + what + ")", x.found(what), 0);
        }
    }

    private static void tallies(String text, int states, int undecided, int ending, int outputs) {
        ReactWires x = new ReactWires();
        for (int i = 0; i < text.length(); i++) {
            x.type(text.charAt(i));
        }
        CHECK.same("load() of " + text, x.load() >= 0, true);
        due(x, 0, 0, 0);
        for (int again = 0; again < 2; again++) {
            CHECK.same("states() of " + text, x.states(), states);
            due(x, undecided, ending, outputs);
            x.react(5);
            due(x, undecided, ending, outputs);
        }
        x.restart();
        due(x, undecided, ending, outputs);
    }

    /** One pair alone, with inputs 0, 15 and each between. */
    private static void onePair() {
        CHECK.sentence("the number of pairs of a reached state and inputs 0 .. 15 that are UNDECIDED (0), that end the program (1)");
        for (int inputs = 0; inputs < 16; inputs++) {
            StringBuilder open = new StringBuilder();
            StringBuilder close = new StringBuilder();
            for (int i = 0; i < 4; i++) {
                boolean there = (inputs >> i & 1) == 1;
                open.append('?').append("abcd".charAt(i)).append(there ? "" : "1:");
                close.append(there ? ":1" : "");
            }
            // The other fifteen come to one of the four PAUSEs, each of which ends with any inputs.
            tallies(open + "?e!e:0" + close, 5, 1, 64, 0);
            tallies(open + "!g" + close, 5, 0, 1 + 64, 4);
            tallies("*(" + open + "(!h;1)" + close + ")", 11, 0, 0, 8);
        }
    }

    private static void outputBits() {
        CHECK.sentence("the sum of 1, 2, 4, 8 for the outputs e to h that some pair that is decided gives (2)");
        for (int i = 0; i < 4; i++) {
            char output = "efgh".charAt(i);
            tallies("!" + output, 1, 0, 16, 1 << i);
            tallies("1;1;!" + output, 3, 0, 16, 1 << i);
            tallies("?a!" + output + ":0;1", 2, 0, 16, 1 << i);
            // Given with an UNDECIDED pair alone.
            tallies("!" + output + ";\\s(?s!s:0)", 1, 16, 0, 0);
            tallies("!" + output + ";1;\\s(?s!s:0)", 2, 16, 0, 1 << i);
            tallies("1;!" + output + ";\\s(?s!s:0)", 2, 16, 0, 0);
        }
        tallies("?a!e:!f;1;?b!g:!h", 2, 0, 16, 15);
        tallies("\\s!s;1", 2, 0, 16, 0);
    }

    private static void manyPairs() {
        CHECK.sentence("Of the latest states() of this program that answered more than 0");
        tallies("1" + ";1".repeat(28), 30, 0, 16, 0);
        tallies("{*(1" + ";1".repeat(13) + ")|*?a^2:1};!e", 29, 0, 29 * 8, 1);
        tallies("*(1" + ";1".repeat(13) + ")|*(?a?e!e:0:0;1)", 29, 29 * 8, 0, 0);
    }

    private static void before() {
        CHECK.sentence("0 before, or for another what");
        ReactWires x = new ReactWires();
        due(x, 0, 0, 0);
        CHECK.same("states()", x.states(), -1);
        due(x, 0, 0, 0);
        CHECK.load(x, "!e", 0);
        x.react(0);
        due(x, 0, 0, 0);
        CHECK.same("states()", x.states(), 1);
        due(x, 0, 16, 1);
        CHECK.load(x, "!e;", -1);
        due(x, 0, 16, 1);
        x.wipe();
        CHECK.load(x, "!e", 0);
        due(x, 0, 0, 0);
    }

    private static void refused() {
        CHECK.sentence("Of the latest states() of this program that answered more than 0");
        ReactWires x = CHECK.load("!e", 0);
        CHECK.same("states()", x.states(), 1);
        CHECK.load(x, "!e;1" + ";1".repeat(28), 29);
        CHECK.same("states()", x.states(), 30);
        due(x, 0, 16, 1);
        CHECK.load(x, "?f!f:0|1" + ";1".repeat(26), 27);
        CHECK.same("states()", x.states(), 1);
        due(x, 16, 0, 0);
        CHECK.load(x, "1", 1);
        due(x, 0, 0, 0);
        CHECK.same("states()", x.states(), 2);
        due(x, 0, 16, 0);
        CHECK.load(x, "1" + ";1".repeat(29), 30);
        CHECK.same("states()", x.states(), -2);
        due(x, 0, 0, 0);
        CHECK.load(x, "*(!g;1)", 2);
        CHECK.same("states()", x.states(), 3);
        due(x, 0, 0, 4);
    }
}
