/**
 * Terms: what the things inside have from each kind of thing around them, and what it has from them. Each text
 * here has one PAUSE that its first instant comes to, and an EMIT of e after it.
 */
public final class TermsInsideTest {
    private static final Check CHECK = new Check();

    private static final String[] UNITS = {
        "(1;!e)", "(1;!e;0)", "(0;1;!e)", "((1;!e)|0)", "(0|(1;!e))", "((0|1|0);!e)", "{1;!e}", "{1;!e;^2}",
        "\\s(1;!e)", "?b(1;!e):(1;!e)", "?c0:(1;!e)", "&c(1;!e)", "{{1};!e}", "\\s{&d?b(0|(1;!e)):(1;!e)}",
    };

    public static void main(String[] args) {
        for (String unit : UNITS) {
            resumed(unit);
            heldBack(unit);
            heldBackFromFurtherOut(unit);
            selected(unit);
            notSelected(unit);
            killedWithAll(unit);
        }
        bothCopiesOfALoop();
        bothSidesOfAPar();
        CHECK.end();
    }

    private static ReactWires started(String text) {
        ReactWires x = new ReactWires();
        CHECK.type(x, text);
        CHECK.same("load() of " + text + " is taken", x.load() > 0, true);
        CHECK.same("react(2) of " + text, x.react(2), 0);
        CHECK.same("outputs() of " + text, x.outputs(), 0);
        return x;
    }

    private static void resumed(String unit) {
        CHECK.sentence("The things inside have the RES of what they lie in");
        CHECK.instant(started(unit + ";!h"), 0, 1, 1 + 8, 0);
        CHECK.instant(started(unit + ";!h"), 2, 1, 1 + 8, 0);
    }

    private static void heldBack(String unit) {
        CHECK.sentence("The things inside have the RES and SUSP of what they lie in");
        ReactWires x = started("&a" + unit + ";!h");
        int paused = x.registers(0);
        CHECK.same("one register of " + unit + " is 1", Integer.bitCount(paused), 1);
        for (int i = 0; i < 3; i++) {
            CHECK.instant(x, 1, 0, 0, 0);
            CHECK.same("registers(0) of " + unit, x.registers(0), paused);
        }
        CHECK.instant(x, 0, 1, 1 + 8, 0);
        CHECK.same("registers(0) of " + unit, x.registers(0), 0);
    }

    private static void heldBackFromFurtherOut(String unit) {
        CHECK.sentence("its RES is RES AND SEL AND NOT signal; its SUSP is SUSP OR (RES AND SEL AND signal)");
        ReactWires x = started("&a\\z{0;&b(0|" + unit + ");!h}");
        int paused = x.registers(0);
        for (int held = 1; held <= 3; held++) {
            CHECK.instant(x, held, 0, 0, 0);
            CHECK.same("registers(0) of " + unit, x.registers(0), paused);
        }
        CHECK.instant(x, 0, 1, 1 + 8, 0);
    }

    /** The other side of the PAR is DEAD only if this one is SELected. */
    private static void selected(String unit) {
        CHECK.sentence("SEL is the OR of theirs");
        CHECK.instant(started("0|" + unit + ";!h"), 0, 1, 1 + 8, 0);
        CHECK.instant(started(unit + "|0;!h"), 0, 1, 1 + 8, 0);
    }

    /** When it has ended, the other side does not wait for it. */
    private static void notSelected(String unit) {
        CHECK.sentence("SEL is the OR of theirs");
        ReactWires x = started(unit + "|(1;1;!f);!h");
        CHECK.instant(x, 0, 0, 1, 0);
        CHECK.same("one register beside " + unit + " is 1", Integer.bitCount(x.registers(0)), 1);
        CHECK.instant(x, 0, 1, 2 + 8, 0);
    }

    private static void killedWithAll(String unit) {
        CHECK.sentence("KILLED: a TRAP around it has K2 of what lies in it 1");
        ReactWires x = started("{&a" + unit + "|(1;^2)};1;!h");
        CHECK.instant(x, 1, 0, 0, 0);
        CHECK.same("one register after " + unit + " is 1", Integer.bitCount(x.registers(0)), 1);
        CHECK.instant(x, 1, 1, 8, 0);
    }

    private static void bothCopiesOfALoop() {
        CHECK.sentence("The things inside have the RES and SUSP of what they lie in; SEL is the OR of theirs");
        ReactWires x = started("0|&a*(1;!e)");
        for (int copy = 0; copy < 5; copy++) {
            int paused = 1 << copy % 2;
            CHECK.instant(x, 1, 0, 0, 0);
            CHECK.same("registers(0)", x.registers(0), paused);
            CHECK.instant(x, 0, 0, 1, 0);
            CHECK.same("registers(0)", x.registers(0), 3 - paused);
        }
    }

    private static void bothSidesOfAPar() {
        CHECK.sentence("The things inside have the RES and SUSP of what they lie in; SEL is the OR of theirs");
        ReactWires x = started("&a((1;!e)|(1;!f)|(1;1;!g));!h");
        CHECK.instant(x, 1, 0, 0, 0);
        CHECK.same("registers(0)", x.registers(0), 1 | 2 | 4);
        CHECK.instant(x, 0, 0, 1 + 2, 0);
        CHECK.instant(x, 1, 0, 0, 0);
        CHECK.same("registers(0)", x.registers(0), 8);
        CHECK.instant(x, 0, 1, 4 + 8, 0);
    }
}
