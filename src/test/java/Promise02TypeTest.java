/** Promise 2: type appends a character; refused if it is not 33 .. 126 or sixty are there. */
public final class Promise02TypeTest {
    private static final Check CHECK = new Check();

    public static void main(String[] args) {
        everyCharacter();
        theEdges();
        appends();
        sixty();
        roomAgain();
        CHECK.end();
    }

    private static void everyCharacter() {
        CHECK.sentence("false (refused) if it is not 33 .. 126");
        ReactWires x = new ReactWires();
        for (int c = 0; c <= 65535; c++) {
            if (c % 50 == 0) {
                x = new ReactWires();
            }
            CHECK.same("type((char) " + c + ")", x.type((char) c), c >= 33 && c <= 126);
        }
    }

    private static void theEdges() {
        CHECK.sentence("false (refused) if it is not 33 .. 126");
        CHECK.same("type((char) 32)", new ReactWires().type((char) 32), false);
        CHECK.same("type((char) 33)", new ReactWires().type((char) 33), true);
        CHECK.same("type((char) 126)", new ReactWires().type((char) 126), true);
        CHECK.same("type((char) 127)", new ReactWires().type((char) 127), false);
        // What is refused is not in the line.
        ReactWires x = new ReactWires();
        for (char c : new char[] {'!', 32, 127, 256 + 'f', 'e', 0, 65535}) {
            x.type(c);
        }
        CHECK.same("load() of !e", x.load(), 0);
        CHECK.instant(x, 0, 1, 1, 0);
        for (int i = 0; i < 70; i++) {
            CHECK.same("type of a blank", x.type(' '), false);
        }
        CHECK.room(x, 60);
    }

    private static void appends() {
        CHECK.sentence("Appends a character to the line: true");
        ReactWires x = CHECK.load("?a!e:!f", 0);
        CHECK.instant(x, 1, 1, 1, 0);
        x = CHECK.load("?a!f:!e", 0);
        CHECK.instant(x, 1, 1, 2, 0);
        // A program is not touched by what is typed behind it.
        CHECK.type(x, "1;1");
        CHECK.same("outputs()", x.outputs(), 2);
        CHECK.same("look(2)", x.look(2), 0);
        CHECK.same("load()", x.load(), 2);
    }

    private static void sixty() {
        CHECK.sentence("false (refused) if sixty are there");
        for (int before = 0; before < 60; before++) {
            ReactWires x = new ReactWires();
            CHECK.type(x, "~".repeat(before));
            CHECK.room(x, 60 - before);
        }
        ReactWires full = new ReactWires();
        CHECK.type(full, "1;".repeat(28) + "!s;1");
        for (int i = 0; i < 3; i++) {
            CHECK.same("type of a 61st", full.type('1'), false);
        }
        CHECK.same("load() of sixty", full.load(), -2);
        CHECK.same("type after a refused load", full.type('1'), false);
    }

    private static void roomAgain() {
        CHECK.sentence("false (refused) if sixty are there");
        ReactWires x = new ReactWires();
        CHECK.type(x, "1;".repeat(28) + "!e;1");
        CHECK.same("type of a 61st", x.type('1'), false);
        CHECK.same("load() of sixty", x.load(), 29);
        CHECK.same("look(1)", x.look(1), 30 + 29);
        CHECK.room(x, 60);
        x.wipe();
        CHECK.room(x, 60);
    }
}
