/** Terms: the line, and what is a SEQ, a PAR and a UNIT. */
public final class TermsGrammarTest {
    private static final Check CHECK = new Check();

    public static void main(String[] args) {
        longestLine();
        noBlanks();
        whatBeginsAUnit();
        betweenUnits();
        exitDigits();
        presentNeedsItsColon();
        closing();
        nothingMayBeMissing();
        nothingMayFollow();
        parBindsTighter();
        parsFromTheLeft();
        seqsFromTheLeft();
        unitsEndAsSoonAsTheyCan();
        CHECK.end();
    }

    private static void longestLine() {
        CHECK.sentence("The LINE is a text of at most 60 characters");
        ReactWires x = new ReactWires();
        CHECK.type(x, "0;".repeat(28) + "!e;");
        CHECK.same("type of the 60th", x.type('1'), true);
        CHECK.same("type of a 61st", x.type('1'), false);
        CHECK.same("load() of sixty", x.load(), 1);
        CHECK.instant(x, 0, 0, 1, 0);

        // The sixtieth counts: without it there is no SEQ.
        CHECK.load("0;".repeat(29) + "!", -1);
        CHECK.load("0;".repeat(29) + "0", 0);
        x = CHECK.load("0;".repeat(29) + "!f", 0);
        CHECK.instant(x, 0, 1, 2, 0);
    }

    private static void noBlanks() {
        CHECK.sentence("no blanks");
        for (char blank : new char[] {' ', '\t', '\n', '\r', '\f', 0, 0xA0, 0x2003, 0x3000}) {
            ReactWires x = new ReactWires();
            CHECK.type(x, "0;");
            CHECK.same("type((char) " + (int) blank + ")", x.type(blank), false);
            CHECK.load(x, "1", 1);
        }
    }

    private static void whatBeginsAUnit() {
        CHECK.sentence("UNIT: 0 NOTHING, 1 PAUSE, ! ^ ? & * { \\ (");
        for (char c = 33; c <= 126; c++) {
            CHECK.load("" + c, c == '0' ? 0 : c == '1' ? 1 : -1);
            CHECK.load(c + "1", c == '*' ? 2 : -1);
            CHECK.load(c + "f", c == '!' ? 0 : -1);
            CHECK.load(c + "f1", c == '&' ? 1 : -1);
            CHECK.load(c + "t1", c == '\\' ? 1 : c == '&' ? -2 : -1);
            CHECK.load(c + "f1:1", c == '?' ? 2 : -1);
            CHECK.load(c + "2", c == '^' ? -2 : -1);
            CHECK.load(c + "1)", c == '(' ? 1 : -1);
            CHECK.load(c + "1}", c == '{' ? 1 : -1);
        }
    }

    private static void betweenUnits() {
        CHECK.sentence("SEQ: PARs with ; between. PAR: UNITs with | between");
        for (char c = 33; c <= 126; c++) {
            CHECK.load("1" + c + "1", c == ';' || c == '|' ? 2 : -1);
        }
    }

    private static void exitDigits() {
        CHECK.sentence("^ and a digit 2 .. 5: EXIT");
        for (char c = 33; c <= 126; c++) {
            CHECK.load("{{{{{^" + c + "}}}}}", c >= '2' && c <= '5' ? 0 : -1);
        }
        CHECK.loads(-1, "^", "{^}", "{^22}", "{^-2}");
    }

    private static void presentNeedsItsColon() {
        CHECK.sentence("? and a signal, UNIT, : and a UNIT: PRESENT");
        for (char c = 33; c <= 126; c++) {
            CHECK.load("?a1" + c + "1", c == ':' ? 2 : -1);
        }
        CHECK.loads(-1, "?", "?a", "?a1", "?a1:", "?a:1", "?1:1", "?a1::1", "?a1:1:1", "?a1;1:1", "?a1|1:1", "?ab1:1");
        CHECK.loads(3, "?a1:1;1", "?a1:1|1", "?a(1;1):1", "?a?b1:1:1", "?a1:?b1:1");
    }

    private static void closing() {
        CHECK.sentence("{ SEQ }: TRAP, ( SEQ )");
        for (char c = 33; c <= 126; c++) {
            CHECK.load("{1" + c, c == '}' ? 1 : -1);
            CHECK.load("(1" + c, c == ')' ? 1 : -1);
        }
        CHECK.loads(-1, "{1)", "(1}", "({1)}", "{(1})", "((1)", "(1))", "{{1}", "{1}}", ")1(", "}1{");
        CHECK.loads(1, "({1})", "{(1)}", "((1))", "{{1}}");
        CHECK.loads(2, "{1;1}", "(1|1)", "{1}|{1}", "(1);(1)");
    }

    private static void nothingMayBeMissing() {
        CHECK.sentence("A PROGRAM is a SEQ");
        CHECK.loads(-1, "", ";", "|", "1;", ";1", "1|", "|1", "1;;1", "1||1", "1;|1", "1|;1");
        CHECK.loads(-1, "()", "{}", "(;)", "{|}", "(1;)", "{1;}", "(|1)", "*", "*;1", "*)", "(*)", "{*}");
        CHECK.loads(-1, "&a", "&a;1", "&1", "\\s", "\\s;1", "\\0", "!", "!;0", "&", "\\");
    }

    private static void nothingMayFollow() {
        CHECK.sentence("A PROGRAM is a SEQ");
        CHECK.loads(-1, "00", "01", "10", "11", "!ee", "!e1", "1!e", "*11", "&a11", "\\s11", "?a1:11", "{1}1", "(1)1", "1(1)", "1{1}");
        CHECK.loads(-1, "1:", "1)", "1}", "1a", "1e", "1s", "1*", "1\\", "1&", "1?", "1^", "1!", "1~");
    }

    private static void parBindsTighter() {
        CHECK.sentence("SEQ: PARs with ; between, done one after the other");
        ReactWires x = CHECK.load("!e;1|1;!f", 2);
        CHECK.instant(x, 0, 0, 1, 0);
        CHECK.same("registers(0)", x.registers(0), 3);
        CHECK.instant(x, 0, 1, 2, 0);
        x = CHECK.load("1|!e;!f|1", 2);
        CHECK.instant(x, 0, 0, 1, 0);
        CHECK.same("registers(0)", x.registers(0), 1);
        CHECK.instant(x, 0, 0, 2, 0);
        CHECK.same("registers(0)", x.registers(0), 2);
        CHECK.instant(x, 0, 1, 0, 0);
    }

    /** Which two are one PAR is seen by how many K0 hang on the UNKNOWN one (6 wires of its own). */
    private static void parsFromTheLeft() {
        CHECK.sentence("of p | q | r the first two are one PAR, and this with r another one");
        unknown("?e!e:0|0|0", 6 + 2);
        unknown("0|?e!e:0|0", 6 + 2);
        unknown("0|0|?e!e:0", 6 + 1);
        unknown("0|0|0|?e!e:0", 6 + 1);
        unknown("?e!e:0|0|0|0", 6 + 3);
        unknown("0|(0|?e!e:0)", 6 + 2);
        unknown("?e!e:0|(0|0)", 6 + 1);
    }

    private static void seqsFromTheLeft() {
        CHECK.sentence("of more than two the first two are one and so on");
        unknown("0;0;?e!e:0", 6 + 1);
        unknown("0;0;0;?e!e:0", 6 + 1);
        unknown("0;(0;?e!e:0)", 6 + 2);
        // Behind it each 0 adds GO and K0 and K0 of the SEQ that it ends.
        unknown("?e!e:0;0;0", 6 + 3 + 3);
        unknown("?e!e:0;(0;0)", 6 + 7);
    }

    private static void unknown(String text, int due) {
        ReactWires x = CHECK.load(text, 0);
        CHECK.same("react(0) of " + text, x.react(0), 2);
        CHECK.same("look(3) of " + text, x.look(3), due);
    }

    /** A UNIT is one thing only: what follows a ; or a | is not of it. */
    private static void unitsEndAsSoonAsTheyCan() {
        CHECK.sentence("* and a UNIT: LOOP, & and a signal and a UNIT: SUSPEND, \\ and a local signal and a UNIT: LOCAL");
        CHECK.loads(3, "*1;1", "*1|1", "1;*1", "1|*1");
        CHECK.loads(4, "*(1;1)", "*(1|1)");
        CHECK.loads(-2, "\\s0;!s", "\\s0|!s");
        CHECK.loads(0, "\\s(0;!s)", "\\s(0|!s)");
        ReactWires x = CHECK.load("&a1;1", 2);
        CHECK.step(x, 0, 0, 1);
        CHECK.step(x, 0, 0, 2);
        CHECK.step(x, 1, 1, 0);
        x = CHECK.load("&a1|1", 2);
        CHECK.step(x, 0, 0, 3);
        CHECK.step(x, 1, 0, 1);
        x = CHECK.load("&a(1|1)", 2);
        CHECK.step(x, 0, 0, 3);
        CHECK.step(x, 1, 0, 3);
    }
}
