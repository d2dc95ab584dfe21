import java.util.Random;

/** Random programs and calls (always the same ones), each answer against that of the Model. */
public final class ModelTest {
    private static final String SIGNALS = "abcdefghstuvwxyz";
    private static final String ALPHABET = "01!^?&*{}()\\;|:abefst2345";

    private final Random random;
    private final Check check = new Check();
    private final StringBuilder history = new StringBuilder();
    private final int[] loads = new int[5];
    private final int[] reacts = new int[4];
    private final int[] searches = new int[4];
    private ReactWires x;
    private Model m;

    private ModelTest(long seed) {
        random = new Random(seed);
    }

    public static void main(String[] args) {
        long seed = args.length > 0 ? Long.parseLong(args[0]) : 1;
        int rounds = args.length > 1 ? Integer.parseInt(args[1]) : 4000;
        ModelTest test = new ModelTest(seed);
        for (int round = 0; round < rounds; round++) {
            test.round();
        }
        test.tellWhatWasMet();
        test.check.end();
    }

    /** The test is worth nothing if the random programs miss a whole kind of answer. */
    private void tellWhatWasMet() {
        System.out.println("loads refused with -1 .. -4, and taken: " + java.util.Arrays.toString(loads));
        System.out.println("reacts 0, 1, 2, refused: " + java.util.Arrays.toString(reacts));
        System.out.println("states() -1, -2, up to 8, more: " + java.util.Arrays.toString(searches));
        for (int n : loads) {
            check.same("a kind of load was met", n > 0, true);
        }
        for (int n : reacts) {
            check.same("a kind of react was met", n > 0, true);
        }
        for (int n : searches) {
            check.same("a kind of search was met", n > 0, true);
        }
    }

    /** At most 3 * (61 + 2 + 26 * 4) calls, a react with its looks being four: fewer than 512. */
    private void round() {
        x = new ReactWires();
        m = new Model();
        history.setLength(0);
        int programs = 1 + random.nextInt(3);
        for (int i = 0; i < programs; i++) {
            typeAndLoad();
            int calls = random.nextInt(27);
            for (int call = 0; call < calls; call++) {
                anyCall();
            }
        }
        check.same("a register was 1 at an end" + history, m.registerAtEnd, false);
    }

    private void typeAndLoad() {
        String text = anyText();
        history.append(' ').append(text);
        for (int i = 0; i < text.length(); i++) {
            same("type", x.type(text.charAt(i)) ? 1 : 0, m.type(text.charAt(i)) ? 1 : 0);
        }
        int got = x.load();
        same("load()", got, m.load());
        loads[got < 0 && got >= -4 ? -got - 1 : 4]++;
        if (got < 0 && random.nextInt(4) != 0) {
            x.wipe();
            m.wipe();
        }
    }

    private String anyText() {
        StringBuilder text = new StringBuilder();
        if (random.nextInt(8) == 0) {
            return chains(text);
        }
        int wanted = random.nextInt(10) == 0 ? random.nextInt(8) : 8 + random.nextInt(53);
        String inSight = random.nextInt(8) == 0 ? "stz" : "";
        seq(text, wanted, random.nextInt(12) == 0 ? 4 : 0, inSight, 1);
        if (random.nextInt(10) == 0 && text.length() > 0) {
            int place = random.nextInt(text.length());
            text.setCharAt(place, ALPHABET.charAt(random.nextInt(ALPHABET.length())));
        }
        if (text.length() > 61) {
            text.setLength(61);
        }
        return text.toString();
    }

    /** Chains of PAUSEs beside one another, some of them held back: programs of about thirty states. */
    private String chains(StringBuilder text) {
        int sides = 1 + random.nextInt(3);
        for (int side = 0; side < sides; side++) {
            text.append(side > 0 ? "|" : "").append(random.nextBoolean() ? "&" + anySignal("") : "");
            text.append(random.nextInt(4) == 0 ? "*(1" : "(1");
            int more = random.nextInt(sides == 1 ? 27 : 6);
            for (int i = 0; i < more; i++) {
                text.append(random.nextInt(8) == 0 ? ";?a1:1" : ";1");
            }
            text.append(')');
        }
        if (text.length() > 60) {
            text.setLength(60);
        }
        return text.toString();
    }

    private void seq(StringBuilder text, int room, int traps, String locals, int depth) {
        int parts = room < 4 ? 1 : 1 + random.nextInt(4);
        for (int i = 0; i < parts; i++) {
            if (i > 0) {
                text.append(random.nextInt(2) == 0 ? ';' : '|');
            }
            unit(text, (room - parts + 1) / parts, traps, locals, depth);
        }
    }

    private void unit(StringBuilder text, int room, int traps, String locals, int depth) {
        int limit = random.nextInt(30) == 0 ? 14 : 12;
        if (room < 3 || depth >= limit) {
            leaf(text, traps, locals);
            return;
        }
        int next = depth + 1;
        switch (random.nextInt(9)) {
            case 0, 1 -> {
                text.append('?').append(anySignal(locals));
                unit(text, (room - 3) / 2, traps, locals, next);
                text.append(':');
                unit(text, (room - 3) / 2, traps, locals, next);
            }
            case 2 -> {
                text.append('&').append(anySignal(locals));
                unit(text, room - 2, traps, locals, next);
            }
            case 3 -> {
                // A loop in a loop now and then, so that some programs are too large.
                int loops = random.nextInt(6) == 0 ? 3 : 0;
                text.append("***", 0, loops);
                next += loops;
                // Most loops are given a PAUSE of their own, for else few would be safe.
                boolean pauses = random.nextInt(3) != 0;
                text.append(pauses ? "*(" : "*");
                if (pauses && random.nextBoolean()) {
                    text.append("1;");
                    seq(text, room - 5, traps, locals, next + 1);
                    text.append(')');
                } else if (pauses) {
                    seq(text, room - 5, traps, locals, next + 1);
                    text.append(";1)");
                } else {
                    unit(text, room - 1, traps, locals, next);
                }
            }
            case 4, 5 -> {
                text.append('{');
                seq(text, room - 2, traps + 1, locals, next);
                text.append('}');
            }
            case 6 -> {
                char name = "stz".charAt(random.nextInt(3));
                text.append('\\').append(name);
                unit(text, room - 2, traps, locals + name, next);
            }
            default -> {
                text.append('(');
                seq(text, room - 2, traps, locals, next);
                text.append(')');
            }
        }
    }

    private void leaf(StringBuilder text, int traps, String locals) {
        int which = random.nextInt(8);
        if (which < 3) {
            text.append('1');
        } else if (which == 3) {
            text.append('0');
        } else if (which == 4 && traps > 0) {
            text.append('^').append((char) ('2' + random.nextInt(Math.min(traps, 4))));
        } else {
            String allowed = "efgh" + locals + locals;
            text.append('!').append(allowed.charAt(random.nextInt(allowed.length())));
        }
    }

    private char anySignal(String locals) {
        if (random.nextInt(60) == 0) {
            return SIGNALS.charAt(random.nextInt(SIGNALS.length()));
        }
        String allowed = "abcdef" + locals + locals + locals;
        return allowed.charAt(random.nextInt(allowed.length()));
    }

    private void anyCall() {
        switch (random.nextInt(12)) {
            case 0 -> {
                history.append(" restart");
                same("restart()", x.restart() ? 1 : 0, m.restart() ? 1 : 0);
            }
            case 1 -> search();
            case 2 -> {
                int what = random.nextInt(5) - 1;
                same("found(" + what + ")", x.found(what), m.found(what));
            }
            case 3 -> {
                int part = random.nextInt(4) - 1;
                same("registers(" + part + ")", x.registers(part), m.registers(part));
            }
            case 4 -> same("outputs()", x.outputs(), m.outputs());
            case 5 -> same("open()", x.open(), m.open());
            case 6, 7 -> {
                int what = random.nextInt(7) - 1;
                same("look(" + what + ")", x.look(what), m.look(what));
            }
            default -> react();
        }
    }

    private void search() {
        if (random.nextInt(3) != 0) {
            return;
        }
        history.append(" states");
        int got = x.states();
        same("states()", got, m.states());
        searches[got > 8 ? 3 : got > 0 ? 2 : got == -2 ? 1 : 0]++;
    }

    private void react() {
        int inputs = random.nextInt(12) == 0 ? random.nextInt(40) - 12 : random.nextInt(16);
        history.append(' ').append(inputs);
        int got = x.react(inputs);
        same("react(" + inputs + ")", got, m.react(inputs));
        reacts[got < 0 || got > 2 ? 3 : got]++;
        same("outputs()", x.outputs(), m.outputs());
        same("look(3)", x.look(3), m.look(3));
        same("registers(0)", x.registers(0), m.registers(0));
    }

    private void same(String call, long got, long due) {
        check.same(call + " after" + history, got, due);
    }
}
