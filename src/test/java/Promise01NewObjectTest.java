/** Promise 1: an empty line; no program. */
public final class Promise01NewObjectTest {
    public static void main(String[] args) {
        Check check = new Check();
        ReactWires x = new ReactWires();
        for (int what = 0; what <= 4; what++) {
            check.same("look(" + what + ")", x.look(what), 0);
        }
        check.same("react(0)", x.react(0), -1);
        check.same("restart()", x.restart(), false);
        check.same("outputs()", x.outputs(), 0);
        check.same("open()", x.open(), 0);
        check.same("states()", x.states(), -1);
        for (int what = 0; what <= 2; what++) {
            check.same("found(" + what + ")", x.found(what), 0);
            check.same("registers(" + what + ")", x.registers(what), 0);
        }
        check.same("load() of the empty line", x.load(), -1);
        check.same("look(0) after a refused load", x.look(0), 0);
        check.load(x, "1", 1);

        ReactWires other = new ReactWires();
        check.same("look(0) of another object", other.look(0), 0);
        check.same("load() of another object", other.load(), -1);
        check.end();
    }
}
