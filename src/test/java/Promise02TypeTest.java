/** Promise 2: type appends a character; refused if it is not 33 .. 126 or sixty are there. */
public final class Promise02TypeTest {
    public static void main(String[] args) {
        Check check = new Check();
        for (int c = 0; c < 400; c++) {
            check.same("type((char) " + c + ")", new ReactWires().type((char) c), c >= 33 && c <= 126);
        }
        check.same("type((char) 65535)", new ReactWires().type((char) 65535), false);
        check.same("type((char) 256 + 49)", new ReactWires().type((char) (256 + 49)), false);

        ReactWires refused = new ReactWires();
        check.type(refused, "!");
        check.same("type of a blank", refused.type(' '), false);
        check.load(refused, "e", 0);
        check.instant(refused, 0, 1, 1, 0);

        ReactWires full = new ReactWires();
        check.type(full, "1;".repeat(28) + "!s;1");
        for (int i = 0; i < 3; i++) {
            check.same("type of a 61st", full.type('1'), false);
        }
        check.same("load() of sixty", full.load(), -2);
        check.same("type after a refused load", full.type('1'), false);
        full.wipe();
        check.load(full, "1;".repeat(28) + "!e;1", 29);
        check.same("look(1)", full.look(1), 30 + 29);
        check.same("type after a load", full.type('1'), true);
        check.end();
    }
}
