/** Terms: what is laid out, how often, and how many things that makes (-4 of load says what counts). */
public final class TermsLayoutTest {
    /** 111 things and 8 registers in 18 characters; each ;0 behind it adds two. */
    private static final String OF_111 = "***(1;0;0;0;0;0;0)";
    private static final String OF_119 = OF_111 + ";0;0;0;0";
    private static final Check CHECK = new Check();

    public static void main(String[] args) {
        eachKindIsOneThing();
        loopsAreLaidOutTwice();
        eachKindAtTheLimit();
        farBeyondTheLimit();
        mostRegisters();
        CHECK.end();
    }

    private static void sizes(String text, int things, int registers) {
        ReactWires x = CHECK.load(text, registers);
        CHECK.same("look(1) of " + text, x.look(1), things);
        CHECK.same("look(2) of " + text, x.look(2), registers);
    }

    private static void eachKindIsOneThing() {
        CHECK.sentence("UNITs but for ( ), and one more for each ; and each |");
        sizes("0", 1, 0);
        sizes("1", 1, 1);
        sizes("!e", 1, 0);
        sizes("{^2}", 2, 0);
        sizes("?a0:0", 3, 0);
        sizes("&a0", 2, 0);
        sizes("*1", 3, 2);
        sizes("{0}", 2, 0);
        sizes("\\s0", 2, 0);
        sizes("(0)", 1, 0);
        sizes("((((0))))", 1, 0);
        sizes("0;0", 3, 0);
        sizes("0|0", 3, 0);
        sizes("0;0;0", 5, 0);
        sizes("0|0|0", 5, 0);
        sizes("0;0|0;0", 7, 0);
        sizes("(0;0)|(0;0)", 7, 0);
    }

    private static void loopsAreLaidOutTwice() {
        CHECK.sentence("the UNIT of a LOOP is laid out twice (and what lies in it again for each of these)");
        sizes("*1", 3, 2);
        sizes("**1", 7, 4);
        sizes("***1", 15, 8);
        sizes("****1", 31, 16);
        sizes("*****1", 63, 32);
        sizes("*(1;0)", 7, 2);
        sizes("*(1|1)", 7, 4);
        sizes("*{1}", 5, 2);
        sizes("*((1))", 3, 2);
        sizes("*\\s1", 5, 2);
        sizes("*&a1", 5, 2);
        sizes("*?a1:1", 7, 4);
        sizes("{*^2}", 4, 0);
        sizes("*(1;*1)", 11, 6);
        sizes("*1;*1", 7, 4);
        sizes("1;*1", 5, 3);
        sizes("*(1;*(1;!e))", 19, 6);
    }

    /** Of each kind: a program with it of 120 things, which is taken, and one more of it, which is not. */
    private static void eachKindAtTheLimit() {
        CHECK.sentence("-4 more than 120 things would be laid out");
        sizes(OF_111, 111, 8);
        sizes(OF_119, 119, 8);
        limit("{" + OF_119 + "}", "{{" + OF_119 + "}}", 8);
        limit("&a(" + OF_119 + ")", "&a&a(" + OF_119 + ")", 8);
        limit("\\s(" + OF_119 + ")", "\\s\\t(" + OF_119 + ")", 8);
        limit("{" + OF_111 + "|0|0|0|0}", OF_111 + "|0|0|0|0|0", 8);
        limit("{" + OF_111 + ";0;0;0;0}", OF_111 + ";0;0;0;0;0", 8);
        limit("{" + OF_111 + ";1;1;1;1}", OF_111 + ";1;1;1;1;1", 12);
        limit("{" + OF_111 + ";!e;!f;!g;!h}", OF_111 + ";!e;!f;!g;!h;!e", 8);
        limit("{" + OF_111 + ";^2;^2;^2;^2}", "{{" + OF_111 + ";^2;^2;^2;^2}}", 8);
        limit("?a{0}:(" + OF_111 + ";0;0;0)", "?a{0}:{" + OF_111 + ";0;0;0}", 8);
        limit("?a(" + OF_111 + ";0;0;0):{0}", "?a(" + OF_111 + ";0;0;0;0):0", 8);
        limit("{" + OF_111 + ";*1;*1}", OF_111 + ";*1;*1;0", 12);
        limit("((({((" + OF_111 + "));(0);(0);0;0})))", "((({(({" + OF_111 + "}));(0);(0);0;0})))", 8);
        // One thing more in the innermost of three LOOPs is eight more.
        limit("{***{1;0;0;0;0;0;0}}", "{***{{1;0;0;0;0;0;0}}}", 8);
        limit("{*****1;****1;***1;**1}", "{*****1;****1;***1;**1;0}", 60);
    }

    private static void limit(String of120, String ofMore, int registers) {
        sizes(of120, 120, registers);
        CHECK.load(ofMore, -4);
    }

    private static void farBeyondTheLimit() {
        CHECK.sentence("-4 more than 120 things would be laid out");
        CHECK.loads(-4, "******1", "*******1", "***********1", "***********?a1:1".substring(1), "**(1" + ";0".repeat(27) + ")");
        CHECK.loads(-4, "*****1;*****1", "*****1|*****1", "*".repeat(10) + "(1" + ";0".repeat(22) + ")", "{{{******^2}}}");
    }

    private static void mostRegisters() {
        CHECK.sentence("each PAUSE a REGISTER that is 0 or 1");
        ReactWires x = CHECK.load("{*****1|****1|***1|**1}", 60);
        CHECK.same("react(0)", x.react(0), 0);
        CHECK.same("registers(0)", x.registers(0), 1);
        CHECK.same("registers(1)", x.registers(1), 1 | 1 << 16 | 1 << 24);
        CHECK.same("registers(2)", x.registers(2), 0);
        CHECK.same("react(0)", x.react(0), 0);
        CHECK.same("registers(0)", x.registers(0), 2);
        CHECK.same("registers(1)", x.registers(1), 2 | 2 << 16 | 2 << 24);
    }
}
