/** Promise 3: wipe makes the line empty, and does nothing else. */
public final class Promise03WipeTest {
    public static void main(String[] args) {
        Check check = new Check();
        ReactWires x = new ReactWires();
        x.wipe();
        check.same("load() of a wiped line", x.load(), -1);
        check.type(x, "(((");
        x.wipe();
        check.same("load() of a wiped line", x.load(), -1);
        check.load(x, "!e;1;!f", 1);
        check.instant(x, 0, 0, 1, 0);
        check.type(x, "0;0");
        x.wipe();
        check.same("load() of a wiped line", x.load(), -1);
        check.same("outputs()", x.outputs(), 1);
        check.same("registers(0)", x.registers(0), 1);
        check.instant(x, 0, 1, 2, 0);

        ReactWires full = new ReactWires();
        check.type(full, "x".repeat(60));
        check.same("type of a 61st", full.type('0'), false);
        full.wipe();
        check.load(full, "0", 0);
        check.end();
    }
}
