/**
 * Nothing of an earlier line or program is left: on an object that had another one, each text is loaded,
 * run and looked through as on a new object.
 */
public final class UsedObjectTest {
    private static final String[] TEXTS = {
        "0", "1", "!e;1;!f", "{{{{^5}}}}", "{^2|1};1", "\\s\\t\\z(!s;?z!e:!f)", "*(!e;1;?a!f:0)", "&a(1;!g)|1",
        "?e!f:!e", "1;\\s(?s!s:0);!h", "?a?e!e:0:1", "*****1|****1|***1|**1", "1" + ";1".repeat(29), "1" + ";1".repeat(28),
        "?a1:0|?b1:0|?c1:0|?d1:0", "*\\s(?s!e:!f;1;!s)", "(0|0)|(0;1)", "\\s(&s1|(1;?s!s:0))",
        "^2", "!s", "{^3}", "\\s!t", "&z1", "*0", "*{^2}", "******1", "1;", "(1", "", "((((((((((((1))))))))))))",
    };
    private static final Check CHECK = new Check();

    public static void main(String[] args) {
        CHECK.sentence("The line becomes the program, at its beginning, and the line is empty");
        for (String before : TEXTS) {
            for (String text : TEXTS) {
                afterAnother(before, text);
            }
        }
        CHECK.end();
    }

    private static void afterAnother(String before, String text) {
        ReactWires used = new ReactWires();
        use(used, before);
        used.wipe();
        int answer = load(used, text);
        ReactWires fresh = new ReactWires();
        int due = load(fresh, text);
        CHECK.same("load() of " + text + " after " + before, answer, due);
        if (due >= 0) {
            CHECK.same("what " + text + " does after " + before, use(used, ""), use(fresh, ""));
        }
    }

    private static int load(ReactWires x, String text) {
        for (char c : text.toCharArray()) {
            x.type(c);
        }
        return x.load();
    }

    /** Loads the text and does something of each kind with it: at most 61 + 6 * 20 calls. */
    private static String use(ReactWires x, String text) {
        StringBuilder told = new StringBuilder();
        load(x, text);
        told.append(Check.view(x));
        for (int inputs : new int[] {1, 0, 1, 15}) {
            told.append("; react ").append(x.react(inputs)).append(' ').append(Check.view(x));
        }
        return told.append("; states ").append(x.states()).append(' ').append(Check.view(x)).toString();
    }
}
