/**
 * Terms: what each wire is, also where others are UNKNOWN. The number of the UNKNOWN ones (look(3)) is
 * counted by hand from the document; each K, SEL, GO and each signal is one.
 */
public final class TermsWiresTest {
    private static final Check CHECK = new Check();

    public static void main(String[] args) {
        unknownGoIntoEachKind();
        and();
        or();
        not();
        pause();
        present();
        suspendHoldsBack();
        suspendWithAnUnknownSignal();
        seq();
        loop();
        parWaitsForTheGreater();
        parWithADeadSide();
        trap();
        signalsAreTheOrOfTheirEmits();
        eachCopyHasItsOwnLocal();
        CHECK.end();
    }

    /** Loads the text and runs it to its last instant, which is the one that is counted. */
    private static void unknown(String text, int due, int... inputs) {
        ReactWires x = new ReactWires();
        CHECK.type(x, text);
        CHECK.same("load() of " + text + " is taken", x.load() >= 0, true);
        for (int i = 0; i < inputs.length; i++) {
            int answer = x.react(inputs[i]);
            if (i < inputs.length - 1) {
                CHECK.same("an instant before the last one of " + text, answer, 0);
            } else {
                CHECK.same("the last instant of " + text + " is UNDECIDED", answer == 2, due > 0);
            }
        }
        CHECK.same("look(3) of " + text, x.look(3), due);
    }

    /**
     * In \s(?s!s:0;P) the GO of P is UNKNOWN. Six are UNKNOWN before P: s, K0 of the PRESENT, GO and K0 of
     * what lies in it. Each UNKNOWN K of P makes that of the SEQ and of the LOCAL UNKNOWN too.
     */
    private static void unknownGo(String unit, int ofUnit, int endsOfUnit, int... inputs) {
        unknown("\\s(?s!s:0;" + unit + ")", 6 + ofUnit + 2 * endsOfUnit, inputs);
    }

    private static void unknownGoIntoEachKind() {
        CHECK.sentence("Each thing that is laid out has wires K0 .. K5 and SEL going out (0 where nothing is said)");
        unknownGo("0", 2, 1, 0);
        unknownGo("1", 2, 1, 0);
        unknownGo("!e", 3, 1, 0);
        unknownGo("!s", 2, 1, 0);
        unknownGo("?a0:0", 4, 1, 0);
        unknownGo("?a0:0", 4, 1, 1);
        unknownGo("?a0:1", 4, 1, 0);
        unknownGo("?a0:1", 4, 1, 1);
        unknownGo("?s0:0", 2 + 4, 1, 0);
        unknownGo("?s0:1", 3 + 4, 2, 0);
        unknownGo("&a0", 4, 1, 1);
        unknownGo("&s0", 4, 1, 0);
        unknownGo("*1", 4, 1, 0);
        unknownGo("{0}", 4, 1, 0);
        unknownGo("{1}", 4, 1, 0);
        unknownGo("{^2}", 4, 1, 0);
        unknownGo("\\t0", 4, 1, 0);
        unknownGo("\\t!t", 5, 1, 0);
        unknownGo("(0)", 2, 1, 0);
        unknownGo("(0;0)", 6, 1, 0);
        unknownGo("(1;0)", 4, 1, 0);
        unknownGo("(0|0)", 6, 1, 0);
        unknownGo("(0|1)", 6, 1, 0);
        // An EXIT's K goes on through the TRAPs around: one wire more in each.
        unknown("{\\s(?s!s:0;^2)}", 10 + 1, 0);
        unknown("{{\\s(?s!s:0;^3)}}", 10 + 2, 0);
        unknown("{{{\\s(?s!s:0;^4)}}}", 10 + 3, 0);
        unknown("{{{{\\s(?s!s:0;^5)}}}}", 10 + 4, 0);
        unknown("{{{{{\\s(?s!s:0;^5)}}}}}", 10 + 5, 0);
    }

    private static void and() {
        CHECK.sentence("AND is 0 if one is 0, 1 if all are 1, else UNKNOWN");
        // The inner PRESENT has GO 0: nothing of it is UNKNOWN though its signal is.
        unknown("\\s(?s!s:0|?a?s0:0:0)", 6 + 2, 0);
        unknown("\\s(?s!s:0|?a?s0:0:0)", 6 + 6 + 2, 1);
        unknown("?a?e!e:0:0", 0, 0);
        unknown("?a?e!e:0:0", 6 + 1, 1);
    }

    private static void or() {
        CHECK.sentence("OR, NOT likewise");
        unknown("?e!e:0|!e", 0, 0);
        unknown("!e|?e!e:0", 0, 0);
        unknown("?e!e:0|?a!e:0", 0, 1);
        unknown("?e!e:0|?a!e:0", 6 + 1, 0);
        // One EMIT that is UNKNOWN and one that is 0.
        unknown("?e!e:0|?f!e:0", 6 + 1, 0);
    }

    private static void not() {
        CHECK.sentence("the second one's GO AND NOT signal");
        // Five of the first PRESENT, of the second one its GO too, K0 of the SEQ, e and f.
        unknown("?e0:!f;?f!e:0", 5 + 6 + 1 + 2, 0);
        ReactWires x = CHECK.load("?e!f:!g", 0);
        CHECK.instant(x, 0, 1, 4, 0);
        x = CHECK.load("!e|?e!f:!g", 0);
        CHECK.instant(x, 0, 1, 3, 0);
    }

    private static void pause() {
        CHECK.sentence("PAUSE: K1 = GO, K0 = r AND RES, SEL = r");
        ReactWires x = CHECK.load("1;!e", 1);
        CHECK.instant(x, 0, 0, 0, 0);
        CHECK.instant(x, 0, 1, 1, 0);
        // r is 1 and RES is 0; RES is 1 and r is 0.
        x = CHECK.load("&a1;!e", 1);
        CHECK.instant(x, 0, 0, 0, 0);
        CHECK.instant(x, 1, 0, 0, 0);
        CHECK.instant(x, 0, 1, 1, 0);
        x = CHECK.load("?a(1;!e):(1;!f)", 2);
        CHECK.instant(x, 0, 0, 0, 0);
        CHECK.instant(x, 1, 1, 2, 0);
    }

    private static void present() {
        CHECK.sentence("the first one's GO is GO AND signal, the second one's GO AND NOT signal; each K is the OR of both");
        ReactWires x = CHECK.load("?a!e:!f;!g", 0);
        CHECK.instant(x, 1, 1, 1 + 4, 0);
        CHECK.same("restart()", x.restart(), true);
        CHECK.instant(x, 14, 1, 2 + 4, 0);
        // It is looked at when the program comes to it, not later.
        x = CHECK.load("?a(1;1;!e):(1;!f);!g", 3);
        CHECK.instant(x, 1, 0, 0, 0);
        CHECK.instant(x, 0, 0, 0, 0);
        CHECK.instant(x, 0, 1, 1 + 4, 0);
        // K1, K2 and K3 come from either side.
        x = CHECK.load("{{?a^2:^3;!e};!f};!g", 0);
        CHECK.instant(x, 1, 1, 2 + 4, 0);
        CHECK.same("restart()", x.restart(), true);
        CHECK.instant(x, 0, 1, 4, 0);
    }

    private static void suspendHoldsBack() {
        CHECK.sentence("its RES is RES AND SEL AND NOT signal; its SUSP is SUSP OR (RES AND SEL AND signal)");
        ReactWires x = CHECK.load("&a(!e;1;!f;1;!g)", 2);
        CHECK.instant(x, 1, 0, 1, 0);
        CHECK.instant(x, 1, 0, 0, 0);
        CHECK.instant(x, 0, 0, 2, 0);
        CHECK.same("registers(0)", x.registers(0), 2);
        CHECK.instant(x, 1, 0, 0, 0);
        CHECK.same("registers(0)", x.registers(0), 2);
        CHECK.instant(x, 14, 1, 4, 0);
        // The outer one's signal, the inner one's, both, none.
        x = CHECK.load("&a&b(1;1)", 2);
        CHECK.step(x, 3, 0, 1);
        CHECK.step(x, 1, 0, 1);
        CHECK.step(x, 2, 0, 1);
        CHECK.step(x, 3, 0, 1);
        CHECK.step(x, 0, 0, 2);
        CHECK.step(x, 3, 0, 2);
        CHECK.step(x, 12, 1, 0);
        CHECK.sentence("K1 is K1 of the UNIT OR (RES AND SEL AND signal)");
        // It is the K1 of the side held back that keeps the PAR from its end.
        x = CHECK.load("&a1|1;!e", 2);
        CHECK.instant(x, 0, 0, 0, 0);
        CHECK.instant(x, 1, 0, 0, 0);
        CHECK.instant(x, 1, 0, 0, 0);
        CHECK.instant(x, 0, 1, 1, 0);
        // An EXIT beside one that is held back needs its K1, for it waits for both sides.
        x = CHECK.load("{&a1|(1;^2)};!e", 2);
        CHECK.instant(x, 0, 0, 0, 0);
        CHECK.instant(x, 1, 1, 1, 0);
    }

    private static void suspendWithAnUnknownSignal() {
        CHECK.sentence("K1 is K1 of the UNIT OR (RES AND SEL AND signal)");
        // SELected: K0 of the PAUSE, K0 and K1 of the SUSPEND, six and the SEQ's K0 beside, K0 and K1 of PAR and LOCAL.
        unknown("\\s(&s1|(1;?s!s:0))", 1 + 2 + 6 + 1 + 2 + 2, 0, 0);
        // Not SELected: nothing of it; in the first instant, when RES is 0, likewise.
        unknown("\\s(&s0|(1;?s!s:0))", 6 + 1 + 1 + 1, 0, 0);
        unknown("\\s(&s1|?s!s:0)", 6 + 1 + 1, 0);
        unknown("\\s(&s0|?s!s:0)", 6 + 1 + 1, 0);
    }

    private static void seq() {
        CHECK.sentence("SEQ p ; q: p's GO is GO, q's p's K0; K0 is q's, each other K the OR of both");
        ReactWires x = CHECK.load("1;!e", 1);
        CHECK.instant(x, 0, 0, 0, 0);
        CHECK.instant(x, 0, 1, 1, 0);
        x = CHECK.load("{{?a^2:?b^3:0;?c^2:^3};!e};!f", 0);
        CHECK.instant(x, 1, 1, 1 + 2, 0);
        x.restart();
        CHECK.instant(x, 2, 1, 2, 0);
        x.restart();
        CHECK.instant(x, 4, 1, 1 + 2, 0);
        x.restart();
        CHECK.instant(x, 8, 1, 2, 0);
    }

    private static void loop() {
        CHECK.sentence("the first copy's GO is GO OR the second one's K0, the second one's GO the first one's K0; K0 is 0");
        ReactWires x = CHECK.load("*(1;1);!h", 4);
        for (int i = 0; i < 9; i++) {
            CHECK.step(x, 0, 0, 1 << i % 4);
            CHECK.same("outputs()", x.outputs(), 0);
        }
        CHECK.sentence("LOOP: each other K the OR of both");
        for (int instants = 0; instants < 5; instants++) {
            x = CHECK.load("{*(?a^2:0;1)};!e", 2);
            for (int i = 0; i < instants; i++) {
                CHECK.instant(x, 0, 0, 0, 0);
            }
            CHECK.instant(x, 1, 1, 1, 0);
        }
    }

    private static void parWaitsForTheGreater() {
        CHECK.sentence("PAR: both GO are GO. Kk is AND of: (OR of the first side's K0 .. Kk), (the same of the second side)");
        for (int k = 2; k <= 5; k++) {
            for (int j = 2; j <= 5; j++) {
                int[] outputs = {15, 14, 12, 8};
                ReactWires x = CHECK.load("{{{{^" + k + "|^" + j + "};!e};!f};!g};!h", 0);
                CHECK.instant(x, 0, 1, outputs[Math.max(k, j) - 2], 0);
            }
            int[] outputs = {15, 14, 12, 8};
            for (String side : new String[] {"0|^" + k, "^" + k + "|0", "1|^" + k, "^" + k + "|1"}) {
                ReactWires x = CHECK.load("{{{{" + side + "};!e};!f};!g};!h", side.indexOf('1') < 0 ? 0 : 1);
                CHECK.instant(x, 0, 1, outputs[k - 2], 0);
            }
        }
        // Where one side is UNKNOWN, a K that the other one is above already is known to be 0.
        CHECK.sentence("(OR of the first side's Kk and the second side's Kk)");
        unknown("\\s(?s!s:0|0)", 6 + 1 + 1, 0);
        unknown("\\s(?s!s:0|1)", 6 + 1 + 1, 0);
        unknown("{\\s(?s!s:0|^2)}", 6 + 1 + 1 + 1, 0);
        unknown("{\\s(^2|?s!s:0)}", 6 + 1 + 1 + 1, 0);
        // K0 and K1 of the side (its PRESENT has seven), K1 alone of the PAR beside a PAUSE, both beside a 0.
        unknown("\\s(?s!s:1|1)", 7 + 1 + 1, 0);
        unknown("\\s(?s!s:1|0)", 7 + 2 + 2, 0);
    }

    private static void parWithADeadSide() {
        CHECK.sentence("A side that is not SELected while the other one is, is DEAD");
        ReactWires x = CHECK.load("0|(1;1);!e", 2);
        CHECK.instant(x, 0, 0, 0, 0);
        CHECK.instant(x, 0, 0, 0, 0);
        CHECK.instant(x, 0, 1, 1, 0);
        x = CHECK.load("(1;1)|0;!e", 2);
        CHECK.instant(x, 0, 0, 0, 0);
        CHECK.instant(x, 0, 0, 0, 0);
        CHECK.instant(x, 0, 1, 1, 0);
        // Both are SELected: the first to end waits.
        x = CHECK.load("1|(1;1);!e", 3);
        CHECK.instant(x, 0, 0, 0, 0);
        CHECK.instant(x, 0, 0, 0, 0);
        CHECK.instant(x, 0, 1, 1, 0);
        // The one that lives leaves by an EXIT.
        x = CHECK.load("{{0|(1;^3)};!e};!f", 1);
        CHECK.instant(x, 0, 0, 0, 0);
        CHECK.instant(x, 0, 1, 2, 0);
        x = CHECK.load("{{(1;^2)|0};!e};!f", 1);
        CHECK.instant(x, 0, 0, 0, 0);
        CHECK.instant(x, 0, 1, 3, 0);
        // Neither is SELected, in a later instant too: none is DEAD, and the PAR does not end by itself.
        x = CHECK.load("?a(0|0;!e):(1;1;!f)", 2);
        CHECK.instant(x, 0, 0, 0, 0);
        CHECK.instant(x, 0, 0, 0, 0);
        CHECK.instant(x, 0, 1, 2, 0);
        unknown("\\s(0|(1;?s!s:0))", 6 + 1 + 1 + 1, 0, 0);
        unknown("\\s((1;?s!s:0)|0)", 6 + 1 + 1 + 1, 0, 0);
        unknown("\\s(1|(1;?s!s:0))", 6 + 1 + 1 + 1, 0, 0);
    }

    private static void trap() {
        CHECK.sentence("TRAP: GO is GO; K0 is OR of K0 and K2, K1 is K1, Kk is K(k+1), K5 is 0");
        ReactWires x = CHECK.load("{?a^2:0};!e", 0);
        CHECK.instant(x, 0, 1, 1, 0);
        CHECK.same("restart()", x.restart(), true);
        CHECK.instant(x, 1, 1, 1, 0);
        x = CHECK.load("{1}|0;!e", 1);
        CHECK.instant(x, 0, 0, 0, 0);
        CHECK.instant(x, 0, 1, 1, 0);
        x = CHECK.load("{{{{{^5};!e};!f};!g};!h};1", 1);
        CHECK.instant(x, 0, 0, 8, 0);
    }

    private static void signalsAreTheOrOfTheirEmits() {
        CHECK.sentence("the signal's wire is the OR of the GO of all its EMITs (0 without any)");
        for (int inputs = 0; inputs < 16; inputs++) {
            ReactWires x = CHECK.load("?a!e:0|?b!e:0|?c!e:0|?d!e:0", 0);
            CHECK.instant(x, inputs, 1, inputs == 0 ? 0 : 1, 0);
            x = CHECK.load("\\s(?a!s:0|?b!s:0|?c!s:0|?d!s:0|?s!g:!h)", 0);
            CHECK.instant(x, inputs, 1, inputs == 0 ? 8 : 4, 0);
        }
        unknown("\\s?s0:0", 0, 0);
        unknown("?h0:0", 0, 0);
        // Of this instant alone.
        ReactWires x = CHECK.load("!e;1;?e!f:!g", 1);
        CHECK.instant(x, 0, 0, 1, 0);
        CHECK.instant(x, 0, 1, 4, 0);
    }

    private static void eachCopyHasItsOwnLocal() {
        CHECK.sentence("each LOCAL a wire of its signal");
        ReactWires x = CHECK.load("*\\s(?s!e:!f;1;!s)", 2);
        for (int i = 0; i < 5; i++) {
            CHECK.instant(x, 0, 0, 2, 0);
        }
        // With the LOCAL around the LOOP both copies have the same one: the new round sees it.
        x = CHECK.load("\\s*(?s!e:!f;1;!s)", 2);
        CHECK.instant(x, 0, 0, 2, 0);
        CHECK.instant(x, 0, 0, 1, 0);
        CHECK.instant(x, 0, 0, 1, 0);
        x = CHECK.load("\\s*(1;!s;?s!e:!f)", 2);
        CHECK.instant(x, 0, 0, 0, 0);
        CHECK.instant(x, 0, 0, 1, 0);
        CHECK.instant(x, 0, 0, 1, 0);
    }
}
