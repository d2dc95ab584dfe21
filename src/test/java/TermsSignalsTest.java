/** Terms: which signals there are, and where each may stand. */
public final class TermsSignalsTest {
    private static final String INPUTS = "abcd";
    private static final String OUTPUTS = "efgh";
    private static final String LOCALS = "stuvwxyz";
    private static final Check CHECK = new Check();

    public static void main(String[] args) {
        namesInEachPlace();
        eachInputIsItsOwn();
        eachOutputIsItsOwn();
        eachLocalIsItsOwn();
        kindsDoNotMix();
        CHECK.end();
    }

    private static boolean isIn(String names, char c) {
        return names.indexOf(c) >= 0;
    }

    /** A local signal that stands well but lies in no LOCAL is refused with -2, a wrong one with -1. */
    private static void namesInEachPlace() {
        CHECK.sentence("a .. d are INPUTS, e .. h OUTPUTS, s .. z LOCAL ones");
        for (char c = 33; c <= 126; c++) {
            int local = isIn(LOCALS, c) ? -2 : -1;
            CHECK.load("?" + c + "0:0", isIn(INPUTS + OUTPUTS, c) ? 0 : local);
            CHECK.load("&" + c + "1", isIn(INPUTS + OUTPUTS, c) ? 1 : local);
            CHECK.load("!" + c, isIn(OUTPUTS, c) ? 0 : local);
            CHECK.load("\\" + c + "0", isIn(LOCALS, c) ? 0 : -1);
            CHECK.load("\\" + c + "!" + c, isIn(LOCALS, c) ? 0 : -1);
        }
    }

    private static void eachInputIsItsOwn() {
        CHECK.sentence("a .. d are INPUTS");
        for (int i = 0; i < 4; i++) {
            for (int inputs = 0; inputs < 16; inputs++) {
                boolean there = (inputs >> i & 1) == 1;
                ReactWires x = CHECK.load("?" + INPUTS.charAt(i) + "1:0", 1);
                CHECK.same("react(" + inputs + ") of ?", x.react(inputs), there ? 0 : 1);
                x = CHECK.load("&" + INPUTS.charAt(i) + "1", 1);
                CHECK.same("react(0)", x.react(0), 0);
                CHECK.same("react(" + inputs + ") of &", x.react(inputs), there ? 0 : 1);
            }
        }
    }

    private static void eachOutputIsItsOwn() {
        CHECK.sentence("e .. h OUTPUTS");
        for (int i = 0; i < 4; i++) {
            for (int j = 0; j < 4; j++) {
                ReactWires x = CHECK.load("!" + OUTPUTS.charAt(i) + ";?" + OUTPUTS.charAt(j) + "1:0", 1);
                CHECK.instant(x, 0, i == j ? 0 : 1, 1 << i, 0);
            }
        }
    }

    private static void eachLocalIsItsOwn() {
        CHECK.sentence("s .. z LOCAL ones");
        for (char c : LOCALS.toCharArray()) {
            for (char d : LOCALS.toCharArray()) {
                ReactWires x = CHECK.load("\\" + c + "\\" + d + "(!" + c + ";?" + d + "1:0)", 1);
                CHECK.instant(x, 15, c == d ? 0 : 1, 0, 0);
            }
        }
    }

    private static void kindsDoNotMix() {
        CHECK.sentence("a .. d are INPUTS, e .. h OUTPUTS, s .. z LOCAL ones");
        ReactWires x = CHECK.load("!e;!f;!g;!h;?a1:?b1:?c1:?d1:0", 4);
        CHECK.instant(x, 0, 1, 15, 0);
        x = CHECK.load("?e1:?f1:?g1:?h1:0", 4);
        CHECK.instant(x, 15, 1, 0, 0);
        x = CHECK.load("\\s\\t\\w\\z?s1:?t1:?w1:?z1:(!e;!f;!g;!h)", 4);
        CHECK.instant(x, 15, 1, 15, 0);
    }
}
