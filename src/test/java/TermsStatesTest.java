/** Terms: which states are reached. */
public final class TermsStatesTest {
    private static final Check CHECK = new Check();

    public static void main(String[] args) {
        theBeginningIsReached();
        byAnInstantWithSomeInputs();
        notByAnUndecidedInstant();
        notByAnEnd();
        theSameRegistersAreTheSameState();
        fromReachedOnesAlone();
        CHECK.end();
    }

    private static void states(String text, int due) {
        ReactWires x = new ReactWires();
        CHECK.type(x, text);
        CHECK.same("load() of " + text + " is taken", x.load() >= 0, true);
        CHECK.same("states() of " + text, x.states(), due);
    }

    private static void theBeginningIsReached() {
        CHECK.sentence("A state is REACHED if it is the beginning");
        states("0", 1);
        states("!e", 1);
        states("?e!e:0", 1);
        states("\\s(?s!s:1)", 1);
    }

    private static void byAnInstantWithSomeInputs() {
        CHECK.sentence("or comes from a reached one by an instant with some inputs");
        states("1", 2);
        states("1;1", 3);
        // With one choice of inputs alone: none, all, and each one of its own.
        states("?a0:?b0:?c0:?d0:1", 2);
        states("?a?b?c?d1:0:0:0:0", 2);
        for (char input : "abcd".toCharArray()) {
            states("?" + input + "1:0", 2);
            states("?" + input + "0:1", 2);
            states("1;?" + input + "1:1;1", 5);
        }
        states("?a1:0|?b1:0|?c1:0|?d1:0", 16);
    }

    private static void notByAnUndecidedInstant() {
        CHECK.sentence("by an instant with some inputs that is decided");
        states("?a(?e!e:0):0;1", 2);
        states("?e!e:0;1;1;1", 1);
        states("1;?e!e:0;1;1", 2);
        states("1;?a(?e!e:0;1):1", 3);
        states("1;?a1:1", 4);
    }

    private static void notByAnEnd() {
        CHECK.sentence("and does not end it");
        states("1;0", 2);
        states("?a0:1", 2);
        states("{1|(1;^2)}", 2);
        states("{*1|(1;^2)}", 2);
        states("*1", 3);
    }

    private static void theSameRegistersAreTheSameState() {
        CHECK.sentence("STATES: the registers, and whether the first instant was");
        states("?a!e:!f;1", 2);
        states("?a(!e;1):(!f;1)", 3);
        states("*(1;?a!e:!f)", 3);
        states("&a1", 2);
        states("&a1|&b1", 4);
        // Three of these five differ in the registers 33 .. 35 alone, so the second part counts too.
        states("{*****1|(?a^2:0;1;^2)};1;?b1:1", 5);
    }

    private static void fromReachedOnesAlone() {
        CHECK.sentence("or comes from a reached one");
        states("?e(1;1;1):0;1", 2);
        states("*1;1;1", 3);
        states("{^2;1;1};1", 2);
        states("{*(1;?a^2:0)};1;1", 5);
        states("{*(1;?e^2:0)};1;1", 3);
    }
}
