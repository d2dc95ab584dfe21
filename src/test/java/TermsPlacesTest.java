/** Terms: what a local signal and an EXIT must lie in. */
public final class TermsPlacesTest {
    private static final String LOCALS = "stuvwxyz";
    private static final Check CHECK = new Check();

    public static void main(String[] args) {
        localsLieInALocal();
        localEndsWithItsUnit();
        innermostLocal();
        exitsLieInTraps();
        trapEndsWithItsBrace();
        exitsLeaveTheRightTrap();
        placesOfAnEarlierLine();
        CHECK.end();
    }

    private static void localsLieInALocal() {
        CHECK.sentence("Every local signal lies in a LOCAL of its name");
        for (int i = 0; i < LOCALS.length(); i++) {
            String mine = "\\" + LOCALS.charAt(i);
            String other = "\\" + LOCALS.charAt((i + 1) % LOCALS.length());
            for (String use : usesOf(LOCALS.charAt(i))) {
                CHECK.loads(-2, use, other + use, "(" + use + ")", "{" + use + "}", "&a" + use, "?a0:" + use, "?a" + use + ":0");
                CHECK.loads(-2, "0;" + use, use + ";0", "0|" + use, use + "|0", "*(1;" + use + ")", other + other + use);
                CHECK.loads(0, mine + use, mine + other + use, other + mine + use, mine + mine + use);
                CHECK.loads(0, mine + "(" + use + ")", mine + "{" + use + "}", mine + "&a" + use, mine + "?a0:" + use);
                CHECK.loads(0, mine + "(0;" + use + ")", mine + "(" + use + "|0)", mine + "?a" + use + ":" + use);
                CHECK.loads(2, mine + "*(1;" + use + ")", "*" + mine + "(1;" + use + ")");
            }
        }
    }

    private static String[] usesOf(char local) {
        return new String[] {"!" + local, "?" + local + "0:0", "&" + local + "0"};
    }

    private static void localEndsWithItsUnit() {
        CHECK.sentence("Every local signal lies in a LOCAL of its name");
        for (String use : usesOf('s')) {
            CHECK.loads(-2, "\\s0;" + use, use + ";\\s0", "\\s0|" + use, use + "|\\s0", "(\\s0);" + use, "\\s!s;" + use);
            CHECK.loads(-2, "?a\\s0:" + use, "?a" + use + ":\\s0", "\\s?a0:0;" + use, "{\\s0;" + use + "}");
        }
        // The signal that is looked at is not yet in the LOCAL that lies in it.
        CHECK.loads(-2, "?s\\s0:0", "?s0:\\s0", "&s\\s0", "\\t?s\\s0:0");
        CHECK.loads(0, "\\s?s\\s0:0", "\\s&s\\s0");
    }

    /** A program of these goes on if the signal that is looked at is there, else it ends at once. */
    private static void innermostLocal() {
        CHECK.sentence("its own is the innermost one");
        reacts("\\s(!s;?s1:0)", 0);
        reacts("\\s\\s(!s;?s1:0)", 0);
        reacts("\\s(!s;\\s?s1:0)", 1);
        reacts("\\s(\\s!s;?s1:0)", 1);
        reacts("\\s(!s;\\s0;?s1:0)", 0);
        reacts("\\s(\\s0;!s;?s1:0)", 0);
        reacts("\\s(!s;\\t\\s\\t?s1:0)", 1);
        reacts("\\s(!s;\\t?s1:0)", 0);
        reacts("(\\s!s);\\s?s1:0", 1);
        reacts("\\s!s|\\s?s1:0", 1);
        reacts("\\s(?s(\\s!s):0;\\s(!s;?s1:0))", 0);
        reacts("\\s(\\s(\\s!s;?s1:0);?s1:0)", 1);
    }

    private static void reacts(String text, int due) {
        ReactWires x = new ReactWires();
        CHECK.type(x, text);
        CHECK.same("load() of " + text + " is taken", x.load() >= 0, true);
        CHECK.same("react(0) of " + text, x.react(0), due);
    }

    private static void exitsLieInTraps() {
        CHECK.sentence("every EXIT k in at least k - 1 TRAPs");
        for (int k = 2; k <= 5; k++) {
            for (int traps = 0; traps <= 7; traps++) {
                int due = traps >= k - 1 ? 0 : -2;
                CHECK.load("{".repeat(traps) + "^" + k + "}".repeat(traps), due);
                CHECK.load("{&a".repeat(traps) + "^" + k + "}".repeat(traps), traps > 5 ? -1 : due);
            }
        }
        CHECK.loads(0, "{?a^2:0}", "{?a0:^2}", "{&a^2}", "{\\s^2}", "{(^2)}", "{0;^2}", "{^2;0}", "{0|^2}", "{^2|0}", "{*^2}");
        CHECK.loads(-2, "?a^2:0", "?a0:^2", "&a^2", "\\s^2", "(^2)", "0;^2", "^2;0", "0|^2", "^2|0", "*^2");
    }

    private static void trapEndsWithItsBrace() {
        CHECK.sentence("every EXIT k in at least k - 1 TRAPs");
        CHECK.loads(-2, "{0};^2", "^2;{0}", "{0}|^2", "^2|{0}", "?a{0}:^2", "?a^2:{0}", "({0});^2", "{^2};^2");
        CHECK.loads(-2, "{{0};^3}", "{^3;{0}}", "{{^2}|^3}", "{{{0}};^3}", "{{{^2}};{^4}}");
        CHECK.loads(0, "{{0};^2}", "{^2;{0}}", "{{^2}|^2}", "{{^3}|^2}", "{{{^2}};{^3}}");
    }

    /** A TRAP or a LOCAL of an earlier line, taken or refused, is none of this one. */
    private static void placesOfAnEarlierLine() {
        CHECK.sentence("Every local signal lies in a LOCAL of its name, every EXIT k in at least k - 1 TRAPs");
        for (String before : new String[] {"{{{{^2}}}}", "\\s\\t!s", "{\\s(!s;^2)}", "{{\\s^4}}", "{\\s\\t!u}"}) {
            for (String text : new String[] {"^2", "!s", "&s0", "?s0:0", "^2;0", "!s|0", "^3"}) {
                ReactWires x = new ReactWires();
                CHECK.type(x, before);
                x.load();
                x.wipe();
                CHECK.load(x, text, -2);
            }
        }
    }

    private static void exitsLeaveTheRightTrap() {
        CHECK.sentence("TRAP: K0 is OR of K0 and K2, K1 is K1, Kk is K(k+1)");
        int[] due = {15, 14, 12, 8};
        for (int k = 2; k <= 5; k++) {
            ReactWires x = CHECK.load("{{{{^" + k + "};!e};!f};!g};!h", 0);
            CHECK.instant(x, 0, 1, due[k - 2], 0);
        }
    }
}
