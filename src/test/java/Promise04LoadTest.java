/** Promise 4: load, and the grammar, the codes and the limits that it looks at. */
public final class Promise04LoadTest {
    private static final Check CHECK = new Check();

    public static void main(String[] args) {
        taken();
        noSeq();
        depth();
        liesWrong();
        safety();
        size();
        firstRefusal();
        numberOfRegisters();
        lineIsEmptyThen();
        refusedChangesNothing();
        takenStartsAnew();
        CHECK.end();
    }

    private static void due(int answer, String... texts) {
        CHECK.loads(answer, texts);
    }

    private static void taken() {
        CHECK.sentence("The line becomes the program: the number of its registers");
        due(0, "0", "!e", "!h", "(0)", "{0}", "{^2}", "{{{{^5}}}}", "?a0:0", "?h!e:!f", "\\z!z", "&d0", "\\s?s0:0");
        due(1, "1", "(1)", "1;0", "0|1", "&e1", "{1;^2}", "?a1:0", "\\s&s1");
        due(2, "1|1", "*1", "1;1", "*(1;!e)", "?b1:1");
        due(3, "1|1|1", "1;*1", "1|1;1");
        due(4, "**1", "*(1|1)");
    }

    private static void noSeq() {
        CHECK.sentence("-1 it is no SEQ");
        due(-1, "", ";", "1;", ";1", "1;;1", "1|", "|1", "1|;1", "11", "(1", "1)", "()", "{}", "{1", "1}", "(1}", "{1)");
        due(-1, "2", "!", "!a", "!d", "!i", "!r", "!1", "!E", "^", "^1", "^6", "^0", "^a");
        due(-1, "?", "?a", "?a1", "?a1:", "?i1:1", "?1:1", "?a1;1", "?a1:1:1", "?a1;1:1", ":");
        due(-1, "&", "&a", "&i1", "&1", "*", "*;", "\\", "\\s", "\\a1", "\\e1", "\\i1", "\\r1", "\\11", "a", "e", "s", "~");
    }

    private static void depth() {
        CHECK.sentence("-1 more than 12 UNITs lie inside one another");
        due(1, "(".repeat(11) + "1" + ")".repeat(11), "{".repeat(11) + "1" + "}".repeat(11));
        due(1, "(".repeat(11) + "1;0|0" + ")".repeat(11), "&a".repeat(11) + "1", "\\s".repeat(11) + "1");
        due(-1, "(".repeat(12) + "1" + ")".repeat(12), "{".repeat(12) + "1" + "}".repeat(12));
        due(-1, "&a".repeat(12) + "1", "\\s".repeat(12) + "1", "*".repeat(12) + "1", "?a0:".repeat(12) + "1");
        due(1, "?a0:".repeat(11) + "1", "?a".repeat(11) + "1" + ":0".repeat(11));
        due(-1, "?a".repeat(12) + "1" + ":0".repeat(12));
        due(-4, "*".repeat(11) + "1");
        // Units beside one another do not lie inside one another.
        due(2, "(".repeat(11) + "1" + ")".repeat(11) + ";" + "(".repeat(11) + "1" + ")".repeat(11));
    }

    private static void liesWrong() {
        CHECK.sentence("-2 a local signal or an EXIT does not lie as it must");
        due(-2, "!s", "?s0:0", "&s1", "\\s!t", "(\\s0);!s", "\\s!s;!s", "?a(\\s0):!s", "\\t\\u?s1:1");
        due(-2, "^2", "{^3}", "{{^4}}", "{{{^5}}}", "{0};^2", "{^2|{^4}}", "*^2");
        due(0, "\\s\\t(!s;!t)", "\\s(0;\\t!s)", "{{^2|^3}}", "\\s\\s!s");
    }

    private static void safety() {
        CHECK.sentence("-3 a LOOP is not SAFE");
        due(-3, "*0", "*!e", "*(0|0;0)", "*?a1:0", "*{1|^2}", "*{^2}", "*{0|^2}");
        due(-3, "*(?a1:0;0)", "*\\s!s", "*&a0", "1;*0", "*(1;*0)", "*(*0;1)", "{*{{^2}|0}}", "*{{^2}}", "{*{^2|^2}}");
        due(-3, "{*?a^2:0}", "*{0|{^2}}", "*{*^2}", "*{*(!e;^2)}", "*{{^2|^2};?a^2:1}");
        // The greater code of the sides counts: beside an exit of the outer trap the inner one is not taken.
        due(0, "{*{^3}}", "{*{^3|^2}}", "{*{^2|^3}}", "{*^2}", "{*(!e;^2)}");
        due(0, "{{*{^4|^3|^2}}}");
        due(2, "*(0|1)", "*(0;1)", "*(1;0)", "*{1;^2}", "*(1|!e)", "*\\s1", "*&a1", "{*?a^2:1}", "*(?a0:!e;1)", "{*{^3|1}}");
        due(4, "*?a1:1", "**1", "*(1|1)");
        // What comes behind a thing that can't end at once has no say.
        due(2, "{*(^2;1)}", "*(1;{^2})");
    }

    private static void size() {
        CHECK.sentence("-4 more than 120 things would be laid out (UNITs but for ( ), and one more for each ; and each |)");
        String of29 = "1" + ";0".repeat(14);
        ReactWires x = CHECK.load("**(" + of29 + ")", 4);
        CHECK.same("look(1)", x.look(1), 119);
        x = CHECK.load("{**(" + of29 + ")}", 4);
        CHECK.same("look(1)", x.look(1), 120);
        due(-4, "{{**(" + of29 + ")}}", "**(" + of29 + ");0", "0|**(" + of29 + ")");
        // ( ) is no thing.
        x = CHECK.load("(({**((" + of29 + "))}))", 4);
        CHECK.same("look(1)", x.look(1), 120);
        due(-4, "******1", "***********1");
        due(32, "*****1");
    }

    /** Each two of the four at once, in both orders of the text, and all of them. */
    private static void firstRefusal() {
        CHECK.sentence("Refused, with the first of these");
        String tooDeep = "(".repeat(12) + "0" + ")".repeat(12);
        due(-1, "!s;", "^2;(", "*0;", "******1;", ";!s", ";*0", ";******1", "!s;*0;******1;");
        due(-1, "!s;" + tooDeep, tooDeep + ";!s", "*0;" + tooDeep, tooDeep + ";*0", "******1;" + tooDeep, tooDeep + "|******1");
        due(-1, "(".repeat(12) + "!s" + ")".repeat(12), "{".repeat(12) + "*0" + "}".repeat(12), "*".repeat(12) + "0");
        due(-2, "*0;!s", "!s;*0", "^2;*0", "*0;^2", "*!s", "*^2", "*(0;^2)", "******0;!s");
        due(-2, "!s;******1", "******1;!s", "******^2", "^2|******1", "******1;*0;!s", "!s;*0;******1");
        due(-3, "******1;*0", "*0;******1", "******0", "*0|******1", "******(0|!e)");
        due(-4, "******1", "******1;0");
    }

    private static void numberOfRegisters() {
        CHECK.sentence("the number of its registers");
        due(0, "0", "!e", "{^2}", "{*^2}");
        due(1, "1", "{1}", "?a1:0");
        due(31, "1;" + "1;".repeat(4) + "*1|*1|*1|*1|*1|*1|*1|*1|*1|*1|*1|*1|*1");
        due(32, "*****1", "**(1;1;1;1;1;1;1;1)");
        due(33, "*****1;1", "1|*****1");
        due(60, "*****1;****1;***1;**1", "{*****1;****1;***1;**1}");
        CHECK.sentence("-1 it is no SEQ");
        due(-1, "");
    }

    private static void lineIsEmptyThen() {
        CHECK.sentence("The line becomes the program, at its beginning, and the line is empty");
        ReactWires x = CHECK.load("1", 1);
        CHECK.same("look(0)", x.look(0), 1);
        CHECK.same("load() of the line that a load made empty", x.load(), -1);
        CHECK.same("look(0)", x.look(0), 1);
        CHECK.room(x, 60);
        x = CHECK.load("0;".repeat(29) + "!e", 0);
        CHECK.room(x, 60);
        CHECK.instant(x, 0, 1, 1, 0);
        // From under way and from its end a load leads to the beginning of the new one.
        x = CHECK.load("1;1", 2);
        x.react(0);
        CHECK.load(x, "!f;1", 1);
        CHECK.same("look(0)", x.look(0), 1);
        CHECK.instant(x, 0, 0, 2, 0);
        CHECK.instant(x, 0, 1, 0, 0);
        CHECK.load(x, "!g;1", 1);
        CHECK.same("look(0)", x.look(0), 1);
        CHECK.instant(x, 0, 0, 4, 0);
    }

    private static void refusedChangesNothing() {
        CHECK.sentence("A call that is refused changes nothing");
        ReactWires x = CHECK.load("!e;1;!f;1", 2);
        CHECK.instant(x, 0, 0, 1, 0);
        CHECK.same("states()", x.states(), 3);
        String[] wrong = {"1;", "!s", "*0", "******1"};
        for (int i = 0; i < wrong.length; i++) {
            CHECK.load(x, wrong[i], -1 - i);
            CHECK.same("load() again", x.load(), -1 - i);
            x.wipe();
            CHECK.same("look(0)", x.look(0), 2);
            CHECK.same("look(1)", x.look(1), 7);
            CHECK.same("look(2)", x.look(2), 2);
            CHECK.same("look(4)", x.look(4), 1);
            CHECK.same("outputs()", x.outputs(), 1);
            CHECK.same("registers(0)", x.registers(0), 1);
            CHECK.same("found(1)", x.found(1), 16);
        }
        CHECK.instant(x, 0, 0, 2, 0);
        // The line of a refused load is still there and can be gone on with.
        CHECK.load(x, "(!g", -1);
        CHECK.load(x, ")", 0);
        CHECK.instant(x, 0, 1, 4, 0);
    }

    private static void takenStartsAnew() {
        CHECK.sentence("The line becomes the program, at its beginning");
        ReactWires x = CHECK.load("!e;1;!f", 1);
        CHECK.instant(x, 0, 0, 1, 0);
        CHECK.same("states()", x.states(), 2);
        CHECK.load(x, "?e!e:(1;1;1)", 3);
        CHECK.same("outputs()", x.outputs(), 0);
        CHECK.same("registers(0)", x.registers(0), 0);
        CHECK.same("look(0)", x.look(0), 1);
        CHECK.same("look(4)", x.look(4), 0);
        CHECK.same("found(1)", x.found(1), 0);
        CHECK.same("react(0)", x.react(0), 2);
        CHECK.same("open()", x.open(), 1);
        CHECK.same("load() of the line that a load made empty", x.load(), -1);
        CHECK.load(x, "0", 0);
        CHECK.same("open()", x.open(), 0);
        CHECK.same("look(3)", x.look(3), 0);
    }
}
