/** Terms: the codes that a statement can end with at once, and when a LOOP is SAFE. */
public final class TermsCodesTest {
    /** It can pause only. */
    private static final int NEVER = 0;
    /** It has the code 0: a LOOP around it is not SAFE without any TRAP between. */
    private static final int AT_ONCE = 1;
    private static final Check CHECK = new Check();

    public static void main(String[] args) {
        leaves();
        presents();
        suspendsAndLocals();
        seqs();
        pars();
        loops();
        traps();
        safe();
        everyLoopIsLookedAt();
        CHECK.end();
    }

    /**
     * In n TRAPs the codes 0 and 2 .. n + 1 of a SEQ become 0, so that a LOOP around is not SAFE as soon
     * as n + 1 is the least of them; a SEQ that can pause only is SAFE in any number of them. Four TRAPs
     * around it all make each EXIT lie well.
     */
    private static void leastCode(String seq, int due) {
        for (int traps = 0; traps <= 4; traps++) {
            String inside = traps == 0 ? "(" + seq + ")" : "{".repeat(traps) + seq + "}".repeat(traps);
            ReactWires x = new ReactWires();
            CHECK.type(x, "{{{{*" + inside + "}}}}");
            boolean isSafe = due == NEVER || traps + 1 < due;
            int answer = x.load();
            CHECK.same("load() of " + seq + " in " + traps + " TRAPs is -3", answer == -3, !isSafe);
            CHECK.same("load() of " + seq + " in " + traps + " TRAPs is taken", answer >= 0, isSafe);
        }
    }

    private static void leaves() {
        CHECK.sentence("NOTHING, EMIT: 0; PAUSE: 1; EXIT k: k");
        leastCode("0", AT_ONCE);
        leastCode("!e", AT_ONCE);
        leastCode("1", NEVER);
        for (int k = 2; k <= 5; k++) {
            leastCode("^" + k, k);
        }
        // That a PAUSE has the code 1, not none at all: beside an EXIT the greater one is that of the EXIT.
        leastCode("1|^2", 2);
        leastCode("1|0", NEVER);
    }

    private static void presents() {
        CHECK.sentence("PRESENT: those of both");
        leastCode("?a0:1", AT_ONCE);
        leastCode("?a1:0", AT_ONCE);
        leastCode("?a1:1", NEVER);
        leastCode("?a1:^3", 3);
        leastCode("?a^3:1", 3);
        leastCode("?a^4:^2", 2);
        leastCode("?a^2:^4", 2);
        // Whether the signal can be there has no say.
        leastCode("?h0:1", AT_ONCE);
        leastCode("\\s?s0:1", AT_ONCE);
    }

    private static void suspendsAndLocals() {
        CHECK.sentence("SUSPEND, LOCAL: those of its UNIT");
        for (String around : new String[] {"&a", "\\s", "&e", "\\s&s"}) {
            leastCode(around + "0", AT_ONCE);
            leastCode(around + "1", NEVER);
            leastCode(around + "^4", 4);
            leastCode(around + "^5", 5);
        }
    }

    private static void seqs() {
        CHECK.sentence("a SEQ p ; q: those of p but 0, and, if 0 is one of them, those of q");
        leastCode("0;0", AT_ONCE);
        leastCode("0;1", NEVER);
        leastCode("1;0", NEVER);
        leastCode("0;^2", 2);
        leastCode("1;^2", NEVER);
        leastCode("^3;0", 3);
        leastCode("^3;^2", 3);
        leastCode("?a0:^2;1", 2);
        leastCode("?a0:^4;^2", 2);
        leastCode("?a0:^2;^4", 2);
        leastCode("?a1:^4;^2", 4);
        leastCode("?a0:1;0", AT_ONCE);
        leastCode("?a0:1;1", NEVER);
        CHECK.sentence("of the whole likewise, from left to right");
        leastCode("0;0;0", AT_ONCE);
        leastCode("0;0;^3", 3);
        leastCode("0;1;0", NEVER);
        leastCode("1;0;0", NEVER);
        leastCode("0;0;1", NEVER);
        leastCode("?a0:1;?a0:1;0", AT_ONCE);
        leastCode("?a0:1;1;0", NEVER);
        leastCode("0;(1;0);0", NEVER);
        leastCode("0;(0;0);0", AT_ONCE);
    }

    private static void pars() {
        CHECK.sentence("PAR: all that are the greater of one of each");
        leastCode("0|0", AT_ONCE);
        leastCode("0|1", NEVER);
        leastCode("1|0", NEVER);
        leastCode("1|1", NEVER);
        for (int k = 2; k <= 5; k++) {
            leastCode("0|^" + k, k);
            leastCode("^" + k + "|0", k);
            leastCode("1|^" + k, k);
            leastCode("^" + k + "|1", k);
            leastCode("^" + k + "|^" + k, k);
            for (int j = 2; j < k; j++) {
                leastCode("^" + k + "|^" + j, k);
                leastCode("^" + j + "|^" + k, k);
            }
        }
        leastCode("0|0|0", AT_ONCE);
        leastCode("0|0|1", NEVER);
        leastCode("^2|^4|^3", 4);
        leastCode("?a0:^3|0", AT_ONCE);
        leastCode("?a0:^3|1", 3);
        leastCode("?a0:^3|^2", 2);
        leastCode("?a0:^3|^4", 4);
        leastCode("?a0:1|?a1:0", AT_ONCE);
        leastCode("?a0:^2|?b1:^5", 2);
        leastCode("?a^4:^2|?b^3:^5", 3);
    }

    private static void loops() {
        CHECK.sentence("LOOP: those of its UNIT but 0");
        leastCode("*1", NEVER);
        leastCode("*^2", 2);
        leastCode("*^5", 5);
        leastCode("*?a1:^4", 4);
        leastCode("*1;0", NEVER);
        leastCode("*1|^3", 3);
    }

    private static void traps() {
        CHECK.sentence("TRAP: 0 for 0 and 2, 1 for 1, k - 1 for k above 2");
        leastCode("{0}", AT_ONCE);
        leastCode("{1}", NEVER);
        leastCode("{^2}", AT_ONCE);
        leastCode("{^3}", 2);
        leastCode("{^4}", 3);
        leastCode("{^5}", 4);
        leastCode("{{^3}}", AT_ONCE);
        leastCode("{{^4}}", 2);
        leastCode("{{^5}}", 3);
        leastCode("{?a1:^2}", AT_ONCE);
        leastCode("{1}|0", NEVER);
        leastCode("{1}|^2", 2);
        leastCode("{^3|^2}", 2);
        leastCode("{^3}|{^2}", 2);
    }

    private static void safe() {
        CHECK.sentence("A LOOP is SAFE if 0 is not one of its UNIT's codes");
        CHECK.loads(-3, "*0", "*!e", "*?a1:0", "*?a0:1", "*{^2}", "*{1|^2}", "*(0|0)", "*(0;0)", "*&a0", "*\\s0", "*\\s!s");
        CHECK.loads(2, "*1", "*(0;1)", "*(1;0)", "*(0|1)", "*{1}", "*&a1", "*\\s1", "*{1;^2}", "*(1;!e)");
        CHECK.loads(0, "{*^2}", "{{*^3}}", "{*{^3}}");
        CHECK.loads(-3, "{*{^2}}", "{{*{{^3}}}}");
    }

    private static void everyLoopIsLookedAt() {
        CHECK.sentence("-3 a LOOP is not SAFE");
        for (String bad : new String[] {"*0", "*!e", "*{^2}"}) {
            CHECK.loads(-3, bad, "1;" + bad, bad + ";1", "1|" + bad, bad + "|1", "(" + bad + ")", "{" + bad + "}", "&a" + bad);
            CHECK.loads(-3, "\\s" + bad, "?a" + bad + ":1", "?a1:" + bad, "*" + bad, "*(1;" + bad + ")", "*(" + bad + ";1)");
            CHECK.loads(-3, "*1;" + bad, bad + ";*1", "*1|" + bad, "{^2;" + bad + "}");
        }
        CHECK.loads(4, "*1;*1", "**1", "*1|*1", "?a*1:*1");
    }
}
