/** Terms: an instant, when it is UNDECIDED, what becomes of the registers, and when the program has ENDED. */
public final class TermsInstantTest {
    private static final Check CHECK = new Check();

    public static void main(String[] args) {
        firstInstant();
        allUnknownFirst();
        withoutGuessing();
        undecidedByALocalAlone();
        undecidedForSomeInputs();
        registersStay();
        registerOfGo();
        registerOfSusp();
        killed();
        notKilled();
        killedWhileHeldBack();
        ended();
        CHECK.end();
    }

    private static void firstInstant() {
        CHECK.sentence("The program's GO is 1 in its first instant and 0 later, RES is 0 in its first one and 1 later");
        ReactWires x = CHECK.load("!e;1;1;!f", 2);
        CHECK.instant(x, 0, 0, 1, 0);
        CHECK.instant(x, 0, 0, 0, 0);
        CHECK.instant(x, 0, 1, 2, 0);
        // An instant that was UNDECIDED was none: the next one is the first one still.
        x = CHECK.load("!e;?a(?f!f:0):0;1;!g", 1);
        CHECK.instant(x, 1, 2, 1, 2);
        CHECK.instant(x, 1, 2, 1, 2);
        CHECK.same("look(0)", x.look(0), 1);
        CHECK.instant(x, 0, 0, 1, 0);
        CHECK.same("look(0)", x.look(0), 2);
        CHECK.instant(x, 1, 1, 4, 0);
    }

    private static void allUnknownFirst() {
        CHECK.sentence("all wires are UNKNOWN but those of the inputs");
        // Were the LOOP's wires taken for 1 at first, e would keep itself up.
        CHECK.instant(CHECK.load("(1;*(!e;1))|?e!e:0", 3), 0, 2, 0, 1);
        // Neither does anything of the instant before count.
        ReactWires x = CHECK.load("!e;1;?e!e:0", 1);
        CHECK.instant(x, 0, 0, 1, 0);
        CHECK.instant(x, 0, 2, 0, 1);
        CHECK.instant(x, 0, 2, 0, 1);
        x = CHECK.load("\\s(!s;1;?s!s:0)", 1);
        CHECK.instant(x, 0, 0, 0, 0);
        CHECK.instant(x, 0, 2, 0, 0);
        // The inputs are known: those that are not there are 0.
        for (int inputs = 0; inputs < 16; inputs++) {
            CHECK.instant(CHECK.load("?a!e:0;?b!f:0;?c!g:0;?d!h:0", 0), inputs, 1, inputs, 0);
        }
    }

    private static void withoutGuessing() {
        CHECK.sentence("they become what follows, until nothing more does");
        // None, one and two ways that it could be: UNDECIDED all the same.
        CHECK.instant(CHECK.load("?e0:!e", 0), 0, 2, 0, 1);
        CHECK.instant(CHECK.load("?e!e:!e", 0), 0, 2, 0, 1);
        CHECK.instant(CHECK.load("?e!e:0", 0), 0, 2, 0, 1);
        CHECK.instant(CHECK.load("?e!f:0|?f!e:0", 0), 0, 2, 0, 3);
        CHECK.instant(CHECK.load("?e!f:0|?f!g:0|?g!h:0|?h!e:0", 0), 0, 2, 0, 15);
        // A chain that does follow, with and against the order of the text.
        CHECK.instant(CHECK.load("!e|?e!f:0|?f!g:0|?g!h:0", 0), 0, 1, 15, 0);
        CHECK.instant(CHECK.load("?g!h:0|?f!g:0|?e!f:0|!e", 0), 0, 1, 15, 0);
        CHECK.instant(CHECK.load("?g!h:0|?f!g:0|?e!f:0|?a!e:0", 0), 0, 1, 0, 0);
        CHECK.instant(CHECK.load("?e!f:0|?f!g:0|?g!h:0|?h!e:0|?a!g:0", 0), 1, 1, 15, 0);
        // What comes after the look can't be what it looks for.
        CHECK.instant(CHECK.load("?e0:0;!e", 0), 0, 2, 0, 1);
        CHECK.instant(CHECK.load("?e1:0;!e", 1), 0, 2, 0, 1);
        CHECK.instant(CHECK.load("?e0:1;!e", 1), 0, 2, 0, 1);
        // Unless a PAUSE lies between for sure.
        CHECK.instant(CHECK.load("?e1:1;!e", 2), 0, 0, 0, 0);
    }

    private static void undecidedByALocalAlone() {
        CHECK.sentence("or a signal's wire, is UNKNOWN still, the instant is UNDECIDED");
        ReactWires x = CHECK.load("!h;\\s(?s!s:0)", 0);
        CHECK.instant(x, 0, 2, 8, 0);
        CHECK.same("look(0)", x.look(0), 1);
        x = CHECK.load("!h;\\s(!s|?s!s:0)", 0);
        CHECK.instant(x, 0, 1, 8, 0);
    }

    private static void undecidedForSomeInputs() {
        CHECK.sentence("If a K or SEL or GO wire of something that is laid out is UNKNOWN still, the instant is UNDECIDED");
        for (int inputs = 0; inputs < 16; inputs++) {
            ReactWires x = CHECK.load("?a?b?c?d?e!e:0:1:1:1:1", 4);
            CHECK.same("react(" + inputs + ")", x.react(inputs), inputs == 15 ? 2 : 0);
            CHECK.same("look(4)", x.look(4), inputs == 15 ? 0 : 1);
        }
    }

    private static void registersStay() {
        CHECK.sentence("the instant is UNDECIDED: registers stay as they are");
        ReactWires x = CHECK.load("(1;?a(?e!e:0):1)|(1;1;!h)|&b1", 5);
        CHECK.step(x, 0, 0, 1 | 4 | 16);
        for (int i = 0; i < 3; i++) {
            CHECK.step(x, 1, 2, 1 | 4 | 16);
            CHECK.step(x, 3, 2, 1 | 4 | 16);
            CHECK.same("look(0)", x.look(0), 2);
            CHECK.same("look(4)", x.look(4), 1);
        }
        CHECK.step(x, 2, 0, 2 | 8 | 16);
        CHECK.step(x, 3, 0, 16);
        CHECK.step(x, 1, 1, 0);
    }

    private static void registerOfGo() {
        CHECK.sentence("each register becomes 1, if either its GO is 1; else 0");
        ReactWires x = CHECK.load("?a1:1;1", 3);
        CHECK.step(x, 1, 0, 1);
        CHECK.step(x, 0, 0, 4);
        CHECK.step(x, 0, 1, 0);
        // GO with the signal of the SUSPEND there.
        x = CHECK.load("&a1|1", 2);
        CHECK.step(x, 1, 0, 3);
    }

    private static void registerOfSusp() {
        CHECK.sentence("or both its SUSP and r are 1; else 0");
        ReactWires x = CHECK.load("&a((1;1)|?b1:0)", 3);
        CHECK.step(x, 3, 0, 1 | 4);
        CHECK.step(x, 1, 0, 1 | 4);
        CHECK.step(x, 0, 0, 2);
        CHECK.step(x, 15, 0, 2);
        CHECK.step(x, 0, 1, 0);
    }

    private static void killed() {
        CHECK.sentence("KILLED: a TRAP around it has K2 of what lies in it 1");
        CHECK.step(CHECK.load("{^2|1}|1", 2), 0, 0, 2);
        CHECK.step(CHECK.load("{1|^2}|1", 2), 0, 0, 2);
        CHECK.step(CHECK.load("{1|1|(1|^2)}|1", 4), 0, 0, 8);
        // By the inner TRAP alone; by the outer one, with all that lies in it.
        CHECK.step(CHECK.load("{{^2|1}|1}|1", 3), 0, 0, 2 | 4);
        CHECK.step(CHECK.load("{{^3|1}|1}|1", 3), 0, 0, 4);
        CHECK.step(CHECK.load("{{{^4|1}|1}|1}|1", 4), 0, 0, 8);
        CHECK.step(CHECK.load("{{{^3|1}|1}|1}|1", 4), 0, 0, 4 | 8);
        CHECK.step(CHECK.load("{{1}|^2}|1", 2), 0, 0, 2);
        CHECK.step(CHECK.load("{&a\\s?b1:1|^2}|1", 3), 0, 0, 4);
        CHECK.step(CHECK.load("{*1|^2}|1", 3), 0, 0, 4);
    }

    private static void notKilled() {
        CHECK.sentence("Otherwise each register becomes 1, if its PAUSE is not KILLED");
        CHECK.step(CHECK.load("{0|1}|1", 2), 0, 0, 1 | 2);
        CHECK.step(CHECK.load("{?a^2:0|1}|1", 2), 0, 0, 1 | 2);
        CHECK.step(CHECK.load("{?a^2:0|1}|1", 2), 1, 0, 2);
        // The TRAP beside, before or inside is not around.
        CHECK.step(CHECK.load("{^2}|1", 1), 0, 0, 1);
        CHECK.step(CHECK.load("1|{^2}", 1), 0, 0, 1);
        CHECK.step(CHECK.load("{^2};1", 1), 0, 0, 1);
        CHECK.step(CHECK.load("{1|{^2}}|1", 2), 0, 0, 1 | 2);
        CHECK.step(CHECK.load("{^2|1};1", 2), 0, 0, 2);
    }

    private static void killedWhileHeldBack() {
        CHECK.sentence("each register becomes 1, if its PAUSE is not KILLED, and both its SUSP and r are 1");
        ReactWires x = CHECK.load("{&a1|(1;^2)}|(1;1)", 4);
        CHECK.step(x, 0, 0, 1 | 2 | 4);
        CHECK.step(x, 1, 0, 8);
        x = CHECK.load("{&a1|(1;0)}|(1;1)", 4);
        CHECK.step(x, 0, 0, 1 | 2 | 4);
        CHECK.step(x, 1, 0, 1 | 8);
    }

    private static void ended() {
        CHECK.sentence("The program has ENDED when K0 is 1: no register is 1 then");
        for (String text : new String[] {"1|1|1", "{1|1|(1;^2)}", "{&a1|&a1|(1;^2)}", "{{1|1|(1;^3)};1;1}"}) {
            ReactWires x = new ReactWires();
            CHECK.type(x, text);
            CHECK.same("load() of " + text + " is taken", x.load() >= 3, true);
            CHECK.step(x, 0, 0, 7);
            CHECK.step(x, 1, 1, 0);
            CHECK.same("look(0)", x.look(0), 3);
            CHECK.step(x, 0, -1, 0);
        }
        // A pause is no end, and a LOOP has none.
        ReactWires x = CHECK.load("1", 1);
        CHECK.step(x, 0, 0, 1);
        CHECK.same("look(0)", x.look(0), 2);
        CHECK.step(x, 0, 1, 0);
        CHECK.same("look(0)", x.look(0), 3);
        CHECK.step(CHECK.load("0", 0), 0, 1, 0);
    }
}
