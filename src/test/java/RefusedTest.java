import java.util.ArrayList;
import java.util.List;
import java.util.function.Consumer;
import java.util.function.Function;

/**
 * A call that is refused changes nothing: two objects are brought to the same place, one of them is given
 * calls that are refused, and both must answer alike whatever is done with them then.
 */
public final class RefusedTest {
    private static final String PROGRAM = "!e;1;!f;?a(?g!h:!g):1;!h";
    private static final Check CHECK = new Check();

    /** A way to come to a place, from a new object on. */
    private record Place(String name, boolean hasProgram, boolean hasEnded, Consumer<ReactWires> way) {
        ReactWires make() {
            ReactWires x = new ReactWires();
            way.accept(x);
            return x;
        }
    }

    /** What is done then, and all that it shows. */
    private static final List<Function<ReactWires, String>> LATER = List.of(
            Check::view,
            x -> "room " + Check.fill(x),
            x -> "react " + x.react(0) + " " + Check.view(x) + " react " + x.react(1) + " " + Check.view(x),
            x -> "react " + x.react(1) + " " + Check.view(x) + " react " + x.react(0) + " " + Check.view(x),
            x -> "states " + x.states() + " " + Check.view(x),
            x -> "restart " + x.restart() + " " + Check.view(x) + " react " + x.react(0) + " " + Check.view(x),
            x -> "load " + x.load() + " " + Check.view(x) + " room " + Check.fill(x),
            x -> more(x, ")"),
            x -> more(x, "1"),
            x -> more(x, ";0"),
            x -> {
                x.wipe();
                return more(x, "!g");
            });

    public static void main(String[] args) {
        for (Place place : places()) {
            typed(place);
            reacted(place);
            if (!place.hasProgram) {
                withoutProgram(place);
            }
            if (place.hasEnded) {
                afterItsEnd(place);
            }
            if (!place.name.contains("line")) {
                loaded(place);
                fullLine(place);
            }
        }
        CHECK.end();
    }

    /** Goes on with the line, and tries to load it. */
    private static String more(ReactWires x, String text) {
        StringBuilder told = new StringBuilder();
        for (char c : text.toCharArray()) {
            told.append("type ").append(x.type(c)).append(' ');
        }
        told.append("load ").append(x.load()).append(' ').append(Check.view(x));
        return told.append(" react ").append(x.react(0)).append(' ').append(Check.view(x)).toString();
    }

    private static List<Place> places() {
        List<Place> places = new ArrayList<>();
        places.add(new Place("a new object", false, false, x -> { }));
        places.add(new Place("a new object with a line begun", false, false, x -> type(x, "(!g")));
        places.add(new Place("no program, with a line that was refused", false, false, x -> load(x, "1;")));
        places.add(new Place("at the beginning", true, false, x -> load(x, PROGRAM)));
        places.add(new Place("at the beginning, with a line begun", true, false, x -> loadAndType(x, "(!g")));
        places.add(new Place("after an UNDECIDED first instant", true, false, x -> run(x, "?a(?g!h:!g):1;!f", 1)));
        places.add(new Place("under way", true, false, x -> run(x, PROGRAM, 0)));
        places.add(new Place("under way, after an UNDECIDED instant", true, false, x -> run(x, PROGRAM, 0, 1)));
        places.add(new Place("ended", true, true, x -> run(x, PROGRAM, 0, 0, 0)));
        places.add(new Place("ended, after an UNDECIDED instant", true, true, x -> run(x, PROGRAM, 0, 1, 0, 0)));
        places.add(new Place("begun again", true, false, x -> {
            run(x, PROGRAM, 0, 1);
            x.restart();
        }));
        places.add(new Place("under way, looked through", true, false, x -> {
            run(x, PROGRAM, 0);
            x.states();
        }));
        places.add(new Place("ended, looked through", true, true, x -> {
            run(x, PROGRAM, 0, 0, 0);
            x.states();
        }));
        places.add(new Place("looked through in vain", true, false, x -> {
            run(x, "1" + ";1".repeat(29), 0);
            x.states();
        }));
        return places;
    }

    private static void type(ReactWires x, String text) {
        for (char c : text.toCharArray()) {
            x.type(c);
        }
    }

    private static void load(ReactWires x, String text) {
        type(x, text);
        x.load();
    }

    private static void loadAndType(ReactWires x, String text) {
        load(x, PROGRAM);
        type(x, text);
    }

    private static void run(ReactWires x, String text, int... inputs) {
        load(x, text);
        for (int i : inputs) {
            x.react(i);
        }
    }

    /** The call is made three times, so that what would add up is seen too. */
    private static void refused(String call, Place place, Function<ReactWires, Long> refusal, long due) {
        for (int i = 0; i < LATER.size(); i++) {
            ReactWires x = place.make();
            for (int again = 0; again < 3; again++) {
                CHECK.same(call + " at: " + place.name, refusal.apply(x), due);
            }
            String without = LATER.get(i).apply(place.make());
            CHECK.same("what was done then (" + i + ") after " + call + " at: " + place.name, LATER.get(i).apply(x), without);
        }
    }

    private static long number(boolean answer) {
        return answer ? 1 : 0;
    }

    private static void typed(Place place) {
        CHECK.sentence("false (refused) if it is not 33 .. 126");
        for (int c : new int[] {0, 10, 32, 127, 128, 255, 256 + '1', 65535}) {
            refused("type((char) " + c + ")", place, x -> number(x.type((char) c)), 0);
        }
    }

    private static void reacted(Place place) {
        CHECK.sentence("-1 (refused) if inputs are not 0 .. 15");
        for (int inputs : new int[] {-1, 16, 17, 31, 32, -16, 1 << 16, Integer.MAX_VALUE, Integer.MIN_VALUE}) {
            refused("react(" + inputs + ")", place, x -> (long) x.react(inputs), -1);
        }
    }

    private static void withoutProgram(Place place) {
        CHECK.sentence("-1 (refused) if there is no program");
        for (int inputs : new int[] {0, 1, 15}) {
            refused("react(" + inputs + ")", place, x -> (long) x.react(inputs), -1);
        }
        refused("states()", place, x -> (long) x.states(), -1);
        CHECK.sentence("false (refused) if there is none");
        refused("restart()", place, x -> number(x.restart()), 0);
    }

    private static void afterItsEnd(Place place) {
        CHECK.sentence("-1 (refused) if it has ended");
        for (int inputs = 0; inputs <= 15; inputs++) {
            int wanted = inputs;
            refused("react(" + inputs + ")", place, x -> (long) x.react(wanted), -1);
        }
    }

    private static void loaded(Place place) {
        CHECK.sentence("Refused, with the first of these");
        String[][] lines = {
            {"", "(1", "1;", "!a", "x", "(((((((((((((1)))))))))))))", "1".repeat(60)},
            {"!s", "^2", "\\s!t", "{^3}", "!s;*0", "^2;******1"},
            {"*0", "*{^2}", "*?a1:0", "*0;******1"},
            {"******1", "*****1;*****1"},
        };
        for (int i = 0; i < lines.length; i++) {
            for (String line : lines[i]) {
                Place typed = new Place(place.name + ", typed " + line, place.hasProgram, place.hasEnded, x -> {
                    place.way.accept(x);
                    type(x, line);
                });
                refused("load()", typed, x -> (long) x.load(), -1 - i);
            }
        }
    }

    private static void fullLine(Place place) {
        CHECK.sentence("false (refused) if sixty are there");
        for (String line : new String[] {"0;".repeat(28) + "!g;1", "1".repeat(60), "(" + "0;".repeat(29) + "0"}) {
            Place full = new Place(place.name + ", with a full line", place.hasProgram, place.hasEnded, x -> {
                place.way.accept(x);
                type(x, line);
            });
            for (char c : new char[] {'0', ')', '!', '~', ' '}) {
                refused("type(" + c + ")", full, x -> number(x.type(c)), 0);
            }
        }
    }
}
