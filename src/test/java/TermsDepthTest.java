/** Terms: at most 12 UNITs lie inside one another. */
public final class TermsDepthTest {
    private static final Check CHECK = new Check();

    public static void main(String[] args) {
        CHECK.sentence("At most 12 UNITs lie inside one another");
        eachKindAround();
        eachKindInnermost();
        loops();
        allKindsAtOnce();
        besideOneAnother();
        seqAndParAreNoUnits();
        farTooDeep();
        CHECK.end();
    }

    private static String around(String open, int times, String inside, String close) {
        return open.repeat(times) + inside + close.repeat(times);
    }

    private static void eachKindAround() {
        String[][] kinds = {{"(", ")"}, {"{", "}"}, {"&a", ""}, {"\\s", ""}, {"?a0:", ""}, {"?a", ":0"}};
        for (String[] kind : kinds) {
            CHECK.load(around(kind[0], 10, "1", kind[1]), 1);
            CHECK.load(around(kind[0], 11, "1", kind[1]), 1);
            CHECK.load(around(kind[0], 12, "1", kind[1]), -1);
        }
    }

    private static void eachKindInnermost() {
        for (String leaf : new String[] {"0", "!e", "^2", "^5"}) {
            CHECK.load(around("{", 11, leaf, "}"), 0);
            CHECK.load(around("{", 12, leaf, "}"), -1);
        }
        for (String two : new String[] {"(0)", "{0}", "&a0", "\\s0", "?a0:0"}) {
            CHECK.load(around("(", 10, two, ")"), 0);
            CHECK.load(around("(", 11, two, ")"), -1);
        }
    }

    private static void loops() {
        // Eleven around one would be 4095 things: refused for that, but not for the depth.
        CHECK.load("*".repeat(11) + "1", -4);
        CHECK.load("*".repeat(12) + "1", -1);
        CHECK.load(around("(", 6, "*****1", ")"), 32);
        CHECK.load(around("(", 7, "*****1", ")"), -1);
        CHECK.load(around("(", 10, "*1", ")"), 2);
        CHECK.load(around("(", 11, "*1", ")"), -1);
    }

    private static void allKindsAtOnce() {
        CHECK.load("({*&a\\s?b({&c\\t?d1:1}):1})", 6);
        CHECK.load("(({*&a\\s?b({&c\\t?d1:1}):1}))", -1);
        CHECK.load("({*&a\\s?b({&c\\t?d(1):1}):1})", -1);
        CHECK.load("({*&a\\s?b({&c\\t?d1:(1)}):1})", -1);
        CHECK.load("({*&a\\s?b({&c\\t?d1:1}):(((((1)))))})", 6);
        CHECK.load("({*&a\\s?b({&c\\t?d1:1}):((((((1))))))})", -1);
    }

    private static void besideOneAnother() {
        String twelve = around("(", 11, "1", ")");
        String thirteen = around("(", 12, "1", ")");
        CHECK.loads(2, twelve + ";" + twelve, twelve + "|" + twelve, "1;" + twelve, twelve + "|1");
        CHECK.loads(-1, "1;" + thirteen, thirteen + ";1", "1|" + thirteen, thirteen + "|1", twelve + ";" + thirteen);
    }

    private static void seqAndParAreNoUnits() {
        CHECK.load(around("(", 11, "1;1|1;1", ")"), 4);
        CHECK.load(around("(", 11, "1|1|1;1;1", ")"), 5);
        CHECK.load("1" + ";1".repeat(29), 30);
        CHECK.load("1" + "|1".repeat(29), 30);
        CHECK.load(around("(1;", 11, "1", ")"), 12);
        CHECK.load(around("(1;", 12, "1", ")"), -1);
    }

    private static void farTooDeep() {
        CHECK.loads(-1, around("(", 29, "1", ")"), around("{", 29, "1", "}"), "(".repeat(60), "{".repeat(60));
        // Nothing at all where the thirteenth would stand.
        CHECK.loads(-1, around("(", 12, "", ")"), around("{", 12, "", "}"), "&a".repeat(12), "\\s".repeat(12), "*".repeat(12));
        CHECK.loads(-1, "*".repeat(59) + "1", "&a".repeat(29) + "1", "\\s".repeat(29) + "1", "?a".repeat(30), "*".repeat(60));
    }
}
