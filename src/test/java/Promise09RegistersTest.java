/** Promise 9: the registers that are 1, by the order of their laying out, 32 a part. */
public final class Promise09RegistersTest {
    private static final Check CHECK = new Check();

    public static void main(String[] args) {
        order();
        parts();
        partsThatAreNone();
        withoutRegisters();
        aroundTheFirstPart();
        ends();
        CHECK.end();
    }

    private static void due(ReactWires x, int part, int bits) {
        CHECK.same("registers(" + part + ")", x.registers(part), bits);
    }

    private static void order() {
        CHECK.sentence("The registers that are 1, by the order of their laying out");
        ReactWires x = CHECK.load("?a1:1;(1|1)", 4);
        due(x, 0, 0);
        x.react(0);
        due(x, 0, 2);
        x.react(0);
        due(x, 0, 12);
        x.restart();
        due(x, 0, 0);
        x.react(1);
        due(x, 0, 1);
        // The first copy of a LOOP's UNIT comes whole before the second one, and inner loops likewise.
        x = CHECK.load("*(1;1);1", 5);
        int[] bits = {1, 2, 4, 8, 1, 2};
        for (int b : bits) {
            CHECK.same("react(0)", x.react(0), 0);
            due(x, 0, b);
        }
        x = CHECK.load("*{*(1;?a^2:0;1)}", 8);
        int[][] instants = {{0, 1}, {0, 2}, {0, 4}, {0, 8}, {0, 1}, {1, 16}, {0, 32}, {0, 64}, {1, 1}};
        for (int[] i : instants) {
            CHECK.same("react(" + i[0] + ")", x.react(i[0]), 0);
            due(x, 0, i[1]);
        }
    }

    private static void parts() {
        CHECK.sentence("of registers 32 * part to 32 * part + 31 the lowest bit first");
        ReactWires x = CHECK.load("*(1" + ";1".repeat(16) + ")", 34);
        for (int i = 0; i < 34; i++) {
            CHECK.same("react(0)", x.react(0), 0);
            due(x, 0, i < 32 ? 1 << i : 0);
            due(x, 1, i < 32 ? 0 : 1 << i - 32);
            due(x, 2, 0);
        }
        x.react(0);
        due(x, 0, 1);
        due(x, 1, 0);
        x = CHECK.load("1" + "|1".repeat(29), 30);
        x.react(0);
        due(x, 0, (1 << 30) - 1);
        int[] noParts = {-1, 1, 3, 4, 5, 1 << 27, -(1 << 27), Integer.MAX_VALUE, Integer.MIN_VALUE};
        for (int part : noParts) {
            due(x, part, 0);
        }
        x = CHECK.load("*(1" + "|1".repeat(28) + ")", 58);
        x.react(0);
        due(x, 0, (1 << 29) - 1);
        due(x, 1, 0);
        x.react(0);
        due(x, 0, -1 << 29);
        due(x, 1, (1 << 26) - 1);
    }

    /** 32 * part must not wrap around: 1 << 27 times 32 is 0 as an int. */
    private static void partsThatAreNone() {
        CHECK.sentence("0 for a part that is none");
        ReactWires x = CHECK.load("*****1|****1|***1|**1", 60);
        CHECK.same("react(0)", x.react(0), 0);
        due(x, 0, 1);
        due(x, 1, 1 | 1 << 16 | 1 << 24);
        int[] none = {-1, 2, 3, 4, 5, 31, 32, 64, -2, -31, -32, -33};
        for (int part : none) {
            due(x, part, 0);
        }
        for (int high = 1; high < 32; high++) {
            int part = high << 27;
            due(x, part, 0);
            due(x, part + 1, 0);
            due(x, part - 1, 0);
        }
        due(x, Integer.MAX_VALUE, 0);
        due(x, Integer.MIN_VALUE, 0);
        due(x, Integer.MIN_VALUE + 1, 0);
    }

    private static void withoutRegisters() {
        CHECK.sentence("0 for a part that is none");
        due(new ReactWires(), 0, 0);
        ReactWires x = CHECK.load("0", 0);
        due(x, 0, 0);
        x.react(0);
        due(x, 0, 0);
    }

    /** 31, 32 and 33 registers, the last of which is 1: below, at and behind the first part's highest bit. */
    private static void aroundTheFirstPart() {
        CHECK.sentence("of registers 32 * part to 32 * part + 31 the lowest bit first");
        ReactWires x = CHECK.load("{****1|***1|**1|*1}|1", 31);
        x.react(0);
        due(x, 0, 1 | 1 << 16 | 1 << 24 | 1 << 28 | 1 << 30);
        due(x, 1, 0);
        x = CHECK.load("{****1|***1|**1|*1}|1|1", 32);
        x.react(0);
        due(x, 0, 1 | 1 << 16 | 1 << 24 | 1 << 28 | 1 << 30 | 1 << 31);
        due(x, 1, 0);
        x = CHECK.load("{****1|***1|**1|*1}|1|1|1", 33);
        x.react(0);
        due(x, 0, 1 | 1 << 16 | 1 << 24 | 1 << 28 | 1 << 30 | 1 << 31);
        due(x, 1, 1);
    }

    private static void ends() {
        CHECK.sentence("The registers that are 1");
        ReactWires x = CHECK.load("{1|1|(1;^2)};0", 3);
        x.react(0);
        due(x, 0, 7);
        CHECK.same("states()", x.states(), 2);
        due(x, 0, 7);
        CHECK.same("react(0)", x.react(0), 1);
        due(x, 0, 0);
        // KILLED by a trap further out, while GO is 1.
        x = CHECK.load("{{1;(^3|1)}};1", 3);
        x.react(0);
        due(x, 0, 1);
        CHECK.same("react(0)", x.react(0), 0);
        due(x, 0, 4);
        // Held back: the register stays 1.
        x = CHECK.load("&a1|1", 2);
        x.react(1);
        due(x, 0, 3);
        x.react(1);
        due(x, 0, 1);
        CHECK.same("react(0)", x.react(0), 1);
        due(x, 0, 0);
    }
}
