/** Promise 6: restart puts the program at its beginning; the latest instant is told as before. */
public final class Promise06RestartTest {
    public static void main(String[] args) {
        Check check = new Check();
        check.sentence("The program is at its beginning again: true; false (refused) if there is none");
        ReactWires x = new ReactWires();
        check.same("restart()", x.restart(), false);
        check.type(x, "1;");
        check.same("load()", x.load(), -1);
        check.same("restart() after a refused load", x.restart(), false);
        check.same("look(0)", x.look(0), 0);
        x.wipe();

        check.load(x, "!e;1;!f;?a(?g!h:!g):1;!h", 2);
        check.same("restart() at the beginning", x.restart(), true);
        check.same("look(0)", x.look(0), 1);
        check.instant(x, 0, 0, 1, 0);
        check.same("restart() under way", x.restart(), true);
        check.same("look(0)", x.look(0), 1);
        check.same("look(4)", x.look(4), 0);
        check.same("registers(0)", x.registers(0), 0);
        check.same("outputs()", x.outputs(), 1);
        check.instant(x, 0, 0, 1, 0);
        check.instant(x, 1, 2, 2, 12);
        int unknown = x.look(3);
        check.same("wires were UNKNOWN", unknown > 0, true);
        check.same("restart()", x.restart(), true);
        check.same("outputs()", x.outputs(), 2);
        check.same("open()", x.open(), 12);
        check.same("look(3)", x.look(3), unknown);
        check.instant(x, 0, 0, 1, 0);
        check.same("look(3)", x.look(3), 0);
        check.instant(x, 0, 0, 2, 0);
        check.instant(x, 0, 1, 8, 0);
        check.same("look(0)", x.look(0), 3);
        check.same("restart() when it has ended", x.restart(), true);
        check.same("look(0)", x.look(0), 1);
        check.same("outputs()", x.outputs(), 8);
        check.instant(x, 0, 0, 1, 0);

        // After an UNDECIDED first instant, and twice.
        check.load(x, "!e;?a(?g!g:0):1", 1);
        check.instant(x, 1, 2, 1, 4);
        check.same("restart()", x.restart(), true);
        check.same("restart()", x.restart(), true);
        check.same("look(0)", x.look(0), 1);
        check.same("outputs()", x.outputs(), 1);
        check.same("open()", x.open(), 4);
        check.instant(x, 0, 0, 1, 0);
        // Registers of both parts go back to 0, one that is held back too.
        check.load(x, "&a(*****1|****1)", 48);
        check.instant(x, 0, 0, 0, 0);
        check.instant(x, 1, 0, 0, 0);
        check.same("registers(0)", x.registers(0), 1);
        check.same("registers(1)", x.registers(1), 1);
        check.same("look(4)", x.look(4), 2);
        check.same("restart()", x.restart(), true);
        check.same("registers(0)", x.registers(0), 0);
        check.same("registers(1)", x.registers(1), 0);
        check.same("look(4)", x.look(4), 0);

        // The line and what states() found stay.
        check.load(x, "!e;1;!f;?a(?g!h:!g):1;!h", 2);
        check.instant(x, 0, 0, 1, 0);
        check.same("states()", x.states(), 3);
        check.type(x, "(!f");
        check.same("restart()", x.restart(), true);
        check.same("found(2)", x.found(2), 1 + 2 + 8);
        check.load(x, ")", 0);
        check.instant(x, 0, 1, 2, 0);
        check.end();
    }
}
