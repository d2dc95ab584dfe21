/** Promise 5: react, and what each statement does in an instant. */
public final class Promise05ReactTest {
    private static final int E = 1;
    private static final int F = 2;
    private static final int G = 4;
    private static final int H = 8;
    private static final Check CHECK = new Check();

    public static void main(String[] args) {
        refusals();
        sequencesAndPauses();
        presents();
        suspends();
        loops();
        pars();
        traps();
        locals();
        undecided();
        CHECK.end();
    }

    /** Loads the text and runs it: rows of inputs, the due answer and the due outputs. */
    private static void run(String text, int registers, int[]... instants) {
        ReactWires x = CHECK.load(text, registers);
        for (int[] i : instants) {
            CHECK.instant(x, i[0], i[1], i[2], 0);
        }
    }

    private static int[] row(int inputs, int answer, int outputs) {
        return new int[] {inputs, answer, outputs};
    }

    private static void refusals() {
        CHECK.sentence("-1 (refused) if there is no program, it has ended, or inputs are not 0 .. 15");
        CHECK.same("react(0) without a program", new ReactWires().react(0), -1);
        for (int inputs = -40; inputs <= 40; inputs++) {
            boolean isTaken = inputs >= 0 && inputs <= 15;
            CHECK.same("react(" + inputs + ")", CHECK.load("1", 1).react(inputs), isTaken ? 0 : -1);
            CHECK.same("react(" + inputs + ")", CHECK.load("0", 0).react(inputs), isTaken ? 1 : -1);
            CHECK.same("react(" + inputs + ")", CHECK.load("?e!e:0", 0).react(inputs), isTaken ? 2 : -1);
            ReactWires ended = CHECK.load("0", 0);
            CHECK.same("react(0)", ended.react(0), 1);
            CHECK.same("react(" + inputs + ") after the end", ended.react(inputs), -1);
        }
        ReactWires x = CHECK.load("!e;1", 1);
        int[] wrong = {-1, 16, 17, 32, -16, Integer.MAX_VALUE, Integer.MIN_VALUE};
        for (int inputs : wrong) {
            CHECK.same("react(" + inputs + ")", x.react(inputs), -1);
            CHECK.same("look(0)", x.look(0), 1);
        }
        CHECK.instant(x, 15, 0, E, 0);
        for (int inputs : wrong) {
            CHECK.instant(x, inputs, -1, E, 0);
        }
        CHECK.instant(x, 15, 1, 0, 0);
        CHECK.instant(x, 0, -1, 0, 0);
        CHECK.same("look(4)", x.look(4), 2);
    }

    private static void sequencesAndPauses() {
        CHECK.sentence("0 it goes on, 1 it has ended, 2 UNDECIDED");
        run("0", 0, row(0, 1, 0), row(0, -1, 0));
        run("!e;!f;1;!g", 1, row(0, 0, E | F), row(0, 1, G));
        run("1;!e;1;!f;!g;1;!h", 3, row(0, 0, 0), row(0, 0, E), row(0, 0, F | G), row(0, 1, H), row(0, -1, H));
    }

    private static void presents() {
        CHECK.sentence("An instant with inputs (a 1, b 2, c 4, d 8)");
        for (int inputs = 0; inputs < 16; inputs++) {
            int due = 0;
            for (int i = 0; i < 4; i++) {
                due |= inputs & 1 << i;
            }
            run("?a!e:0;?b!f:0;?c!g:0;?d!h:0", 0, row(inputs, 1, due));
        }
        run("?a!e:!f", 0, row(14, 1, F));
        run("?a(1;!e):!f", 1, row(1, 0, 0), row(0, 1, E));
        run("!e;?e!f:!g", 0, row(0, 1, E | F));
        run("?e!f:!g|!e", 0, row(0, 1, E | F));
        run("?e!f:!g", 0, row(0, 1, G));
        run("?e!f:?g!h:1;1", 2, row(0, 0, 0), row(0, 0, 0), row(0, 1, 0));
    }

    private static void suspends() {
        CHECK.sentence("& and a signal and a UNIT: SUSPEND");
        // The first instant of it is never held back.
        run("&a(!e;1;!f)", 1, row(1, 0, E), row(1, 0, 0), row(1, 0, 0), row(0, 1, F));
        run("&a(1;!e;1;!f)", 2, row(0, 0, 0), row(0, 0, E), row(1, 0, 0), row(3, 0, 0), row(2, 1, F));
        run("&a&b(1;!e)", 1, row(0, 0, 0), row(1, 0, 0), row(2, 0, 0), row(3, 0, 0), row(0, 1, E));
        // A signal of the other side holds it back.
        run("&e(1;!f)|(1;!e;1;!g)", 3, row(0, 0, 0), row(0, 0, E), row(0, 1, F | G));
        // An exit kills what is held back.
        run("{&a1|(1;^2)};!e", 2, row(0, 0, 0), row(1, 1, E));
        run("&a0;!e", 0, row(1, 1, E));
    }

    private static void loops() {
        CHECK.sentence("* and a UNIT: LOOP");
        run("*(!e;1)", 2, row(0, 0, E), row(0, 0, E), row(0, 0, E));
        run("*(1;!e)", 2, row(0, 0, 0), row(0, 0, E), row(0, 0, E));
        run("*(!e;1;!f;1)", 4, row(0, 0, E), row(0, 0, F), row(0, 0, E), row(0, 0, F));
        run("{*(?a^2:!e;1)};!f", 2, row(0, 0, E), row(0, 0, E), row(1, 1, F));
        run("**(!e;1)", 4, row(0, 0, E), row(0, 0, E), row(0, 0, E), row(0, 0, E));
        run("*1;!e", 2, row(0, 0, 0), row(0, 0, 0), row(0, 0, 0));
    }

    private static void pars() {
        CHECK.sentence("PAR: both GO are GO");
        run("!e|!f|!g|!h", 0, row(0, 1, 15));
        run("((1;1;!e)|1|0);!f", 3, row(0, 0, 0), row(0, 0, 0), row(0, 1, E | F));
        run("(1|(1;1;!e));!f", 3, row(0, 0, 0), row(0, 0, 0), row(0, 1, E | F));
        run("1|!e;!f", 1, row(0, 0, E), row(0, 1, F));
        run("(1;!e)|0;!f", 1, row(0, 0, 0), row(0, 1, E | F));
        run("(1;!e)|(?a1:0;!f);!g", 2, row(0, 0, F), row(0, 1, E | G));
        // Both sides end their first instant before the PAR goes on.
        run("(?a1:0)|(?b1:0);!e", 2, row(0, 1, E));
        run("(?a1:0)|(?b1:0);!e", 2, row(1, 0, 0), row(0, 1, E));
        run("(?a1:0)|(?b1:0);!e", 2, row(2, 0, 0), row(0, 1, E));
        run("(?a1:0)|(?b1:0);!e", 2, row(3, 0, 0), row(0, 1, E));
    }

    private static void traps() {
        CHECK.sentence("{ SEQ }: TRAP");
        run("{!e;^2;!f};!g", 0, row(0, 1, E | G));
        run("{0};!g", 0, row(0, 1, G));
        run("{(1;^2;!e)|*(!f;1)};!g", 3, row(0, 0, F), row(0, 1, F | G));
        run("{{^3|^2;!e};!f};!g", 0, row(0, 1, G));
        run("{{^2|0;!e};!f};!g", 0, row(0, 1, F | G));
        run("{{{^4;!e};!f};!g};!h", 0, row(0, 1, H));
        run("{{{{^5};!e};!f};!g};!h", 0, row(0, 1, H));
        run("{{{{^4};!e};!f};!g};!h", 0, row(0, 1, G | H));
        run("{{{{^3};!e};!f};!g};!h", 0, row(0, 1, F | G | H));
        run("{{{{^2};!e};!f};!g};!h", 0, row(0, 1, E | F | G | H));
        // The weak way out: the other side still has its instant.
        run("{^2|(!e;1;!f)};1;!g", 2, row(0, 0, E), row(0, 1, G));
        run("{*1|(?a^2:0;1;^2)};!e", 3, row(0, 0, 0), row(0, 1, E));
        run("{*1|(?a^2:0;1;^2)};!e", 3, row(1, 1, E));
    }

    private static void locals() {
        CHECK.sentence("\\ and a local signal and a UNIT: LOCAL");
        run("\\s(!s|?s!e:!f)", 0, row(0, 1, E));
        run("\\s(?s!e:!f|0)", 0, row(0, 1, F));
        run("\\s(!s;1;?s!e:!f)", 1, row(0, 0, 0), row(0, 1, F));
        run("\\s(!s;\\s?s!e:!f)", 0, row(0, 1, F));
        run("\\s\\t(!s;?t!e:?s!g:!f)", 0, row(0, 1, G));
        run("\\s((1;!s)|&s(1;!e;1;!f))", 3, row(0, 0, 0), row(0, 0, 0), row(0, 0, E), row(0, 1, F));
        run("(\\s!s);\\s?s!e:!f", 0, row(0, 1, F));
        run("\\s(?s!e:0|?a!s:0|?b!s:0)", 0, row(2, 1, E));
        // Each copy of a LOOP's UNIT has a wire of its own: what the old one emits the new one does not see.
        run("*\\s(?s!e:!f;1;!s)", 2, row(0, 0, F), row(0, 0, F), row(0, 0, F));
        run("\\s*(?s!e:!f;1;!g)", 2, row(0, 0, F), row(0, 0, F | G), row(0, 0, F | G));
    }

    private static void undecided() {
        CHECK.sentence("2 UNDECIDED");
        ReactWires x = CHECK.load("?a(?e!e:0):(!f;1;!g)", 1);
        for (int i = 0; i < 3; i++) {
            CHECK.instant(x, 1, 2, 0, E);
            CHECK.same("look(0)", x.look(0), 1);
        }
        CHECK.instant(x, 0, 0, F, 0);
        CHECK.instant(x, 0, 1, G, 0);

        // Registers stay as they are, and the program can go on with other inputs.
        x = CHECK.load("1;!h;?a(?e!f:!e):0;1;!g", 2);
        CHECK.instant(x, 0, 0, 0, 0);
        CHECK.instant(x, 1, 2, H, E | F);
        CHECK.same("registers(0)", x.registers(0), 1);
        CHECK.same("look(0)", x.look(0), 2);
        CHECK.instant(x, 1, 2, H, E | F);
        CHECK.instant(x, 0, 0, H, 0);
        CHECK.same("registers(0)", x.registers(0), 2);
        CHECK.instant(x, 0, 1, G, 0);

        // There is no guessing, even where one guess alone would hold.
        x = CHECK.load("?e!e:!e", 0);
        CHECK.instant(x, 0, 2, 0, E);
        x = CHECK.load("?e0:!f;?f!e:0", 0);
        CHECK.instant(x, 0, 2, 0, E | F);
        x = CHECK.load("\\s(?s!e:0;!s)", 0);
        CHECK.instant(x, 0, 2, 0, E);
        // An OR that one of its wires makes 1 needs no other one.
        x = CHECK.load("?e!e:0|!e", 0);
        CHECK.instant(x, 0, 1, E, 0);
    }
}
