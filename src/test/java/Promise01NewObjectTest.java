/** Promise 1: an empty line; no program. */
public final class Promise01NewObjectTest {
    private static final String SHOWS_NOTHING =
            "outputs 0, open 0, registers 0 0 0 0, look -1 0 0 0 0 0 -1, found 0 0 0 0 0";
    private static final Check CHECK = new Check();

    public static void main(String[] args) {
        emptyLine();
        noProgram();
        objectsAreApart();
        CHECK.end();
    }

    private static void emptyLine() {
        CHECK.sentence("An empty line");
        CHECK.same("load() of the empty line", new ReactWires().load(), -1);
        CHECK.room(new ReactWires(), 60);
        CHECK.load("1", 1);
        CHECK.load(")", -1);
    }

    private static void noProgram() {
        CHECK.sentence("no program");
        ReactWires x = new ReactWires();
        CHECK.same("what it shows", Check.view(x), SHOWS_NOTHING);
        for (int inputs = -1; inputs <= 16; inputs++) {
            CHECK.same("react(" + inputs + ")", x.react(inputs), -1);
        }
        CHECK.same("restart()", x.restart(), false);
        CHECK.same("states()", x.states(), -1);
        CHECK.same("load()", x.load(), -1);
        CHECK.same("what it shows", Check.view(x), SHOWS_NOTHING);
        // One character and a load are enough for a program.
        CHECK.load(x, "0", 0);
        CHECK.same("look(0)", x.look(0), 1);
        CHECK.same("react(0)", x.react(0), 1);
    }

    private static void objectsAreApart() {
        CHECK.sentence("An empty line; no program");
        ReactWires x = CHECK.load("!e;1", 1);
        CHECK.type(x, "(1");
        CHECK.instant(x, 0, 0, 1, 0);
        CHECK.same("states()", x.states(), 2);
        ReactWires other = new ReactWires();
        CHECK.same("what another object shows", Check.view(other), SHOWS_NOTHING);
        CHECK.same("load() of another object", other.load(), -1);
        CHECK.load(other, "!f;1;1", 2);
        CHECK.instant(other, 0, 0, 2, 0);
        CHECK.instant(x, 0, 1, 0, 0);
        CHECK.load(x, ")", 1);
    }
}
