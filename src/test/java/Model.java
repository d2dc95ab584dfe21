import java.util.ArrayList;
import java.util.HashSet;
import java.util.LinkedHashSet;
import java.util.List;
import java.util.Set;
import java.util.TreeSet;

/**
 * The document once more, written another way: one choice of inputs at a time, every wire a gate of
 * its own, and the gates tried in any order until nothing more follows. Slow, and close to the text.
 */
final class Model {
    private static final int ZERO = 0;
    private static final int ONE = 1;
    private static final int UNKNOWN = 2;

    /** A kind is the character that begins it; ; and | stand for SEQ and PAR, X for EXIT. */
    private record Node(char kind, int mark, char signal, List<Node> inside) {
    }

    private static final class NoSeq extends Exception {
        private static final long serialVersionUID = 1L;
    }

    private record Gate(boolean isAnd, int[] literals) {
    }

    private static final class Thing {
        int go;
        int res;
        int susp;
        int sel;
        final int[] k = new int[6];
        int register = -1;
        /** The K2 wires of what lies in the TRAPs around. */
        final List<Integer> killers = new ArrayList<>();
    }

    private record State(boolean begun, List<Integer> registers) {
    }

    private final StringBuilder line = new StringBuilder();
    private int at;

    // The program: wires are numbers, a literal is a wire or, negated, its complement.
    private boolean hasProgram;
    private List<Gate> gates = new ArrayList<>();
    private List<Thing> things = new ArrayList<>();
    private List<Thing> pauses = new ArrayList<>();
    private List<Integer> localWires = new ArrayList<>();
    private List<List<Integer>> emitsOfOutput = new ArrayList<>();
    private int[] inputWire;
    private int[] outputWire;
    private int programGo;
    private int programRes;
    private Thing top;

    private State state;
    private boolean ended;
    private int decided;
    private int latestOutputs;
    private int latestOpen;
    private int latestUnknown;
    private int[] tallies = new int[3];
    /** Set if an instant ended the program while a register would have become 1. */
    boolean registerAtEnd;

    boolean type(char c) {
        if (c < 33 || c > 126 || line.length() == 60) {
            return false;
        }
        line.append(c);
        return true;
    }

    void wipe() {
        line.setLength(0);
    }

    int load() {
        at = 0;
        Node root;
        try {
            root = seq(0);
            if (at != line.length()) {
                return -1;
            }
        } catch (NoSeq e) {
            return -1;
        }
        if (!liesRight(root, 0, "")) {
            return -2;
        }
        if (!isSafe(root)) {
            return -3;
        }
        if (size(root) > 120) {
            return -4;
        }
        layOut(root);
        wipe();
        latestOutputs = 0;
        latestOpen = 0;
        latestUnknown = 0;
        tallies = new int[3];
        hasProgram = true;
        toBeginning();
        return pauses.size();
    }

    private char take() throws NoSeq {
        if (at >= line.length()) {
            throw new NoSeq();
        }
        return line.charAt(at++);
    }

    private boolean nextIs(char c) {
        return at < line.length() && line.charAt(at) == c;
    }

    private char takeOneOf(String allowed) throws NoSeq {
        char c = take();
        if (allowed.indexOf(c) < 0) {
            throw new NoSeq();
        }
        return c;
    }

    private Node seq(int unitsAround) throws NoSeq {
        Node left = par(unitsAround);
        while (nextIs(';')) {
            at++;
            left = new Node(';', 0, ' ', List.of(left, par(unitsAround)));
        }
        return left;
    }

    private Node par(int unitsAround) throws NoSeq {
        Node left = unit(unitsAround);
        while (nextIs('|')) {
            at++;
            left = new Node('|', 0, ' ', List.of(left, unit(unitsAround)));
        }
        return left;
    }

    private Node unit(int unitsAround) throws NoSeq {
        if (unitsAround == 12) {
            throw new NoSeq();
        }
        char c = takeOneOf("01!^?&*{\\(");
        int deeper = unitsAround + 1;
        if (c == '0' || c == '1') {
            return new Node(c, 0, ' ', List.of());
        }
        if (c == '!') {
            return new Node(c, 0, takeOneOf("efghstuvwxyz"), List.of());
        }
        if (c == '^') {
            return new Node('X', takeOneOf("2345") - '0', ' ', List.of());
        }
        if (c == '?') {
            char signal = takeOneOf("abcdefghstuvwxyz");
            Node there = unit(deeper);
            takeOneOf(":");
            return new Node(c, 0, signal, List.of(there, unit(deeper)));
        }
        if (c == '&') {
            return new Node(c, 0, takeOneOf("abcdefghstuvwxyz"), List.of(unit(deeper)));
        }
        if (c == '*') {
            return new Node(c, 0, ' ', List.of(unit(deeper)));
        }
        if (c == '\\') {
            return new Node(c, 0, takeOneOf("stuvwxyz"), List.of(unit(deeper)));
        }
        Node inside = seq(deeper);
        takeOneOf(c == '{' ? "}" : ")");
        return c == '{' ? new Node(c, 0, ' ', List.of(inside)) : inside;
    }

    private static boolean liesRight(Node n, int traps, String locals) {
        boolean isLocal = n.signal >= 's' && n.signal <= 'z';
        if (n.kind == 'X' && traps < n.mark - 1) {
            return false;
        }
        if (isLocal && n.kind != '\\' && locals.indexOf(n.signal) < 0) {
            return false;
        }
        for (Node inner : n.inside) {
            String seen = n.kind == '\\' ? locals + n.signal : locals;
            if (!liesRight(inner, n.kind == '{' ? traps + 1 : traps, seen)) {
                return false;
            }
        }
        return true;
    }

    private static Set<Integer> codes(Node n) {
        Set<Integer> all = new TreeSet<>();
        List<Node> in = n.inside;
        switch (n.kind) {
            case '0', '!' -> all.add(0);
            case '1' -> all.add(1);
            case 'X' -> all.add(n.mark);
            case '?' -> {
                all.addAll(codes(in.get(0)));
                all.addAll(codes(in.get(1)));
            }
            case '&', '\\' -> all.addAll(codes(in.get(0)));
            case '*' -> {
                all.addAll(codes(in.get(0)));
                all.remove(0);
            }
            case ';' -> {
                all.addAll(codes(in.get(0)));
                if (all.remove(0)) {
                    all.addAll(codes(in.get(1)));
                }
            }
            case '|' -> {
                for (int a : codes(in.get(0))) {
                    for (int b : codes(in.get(1))) {
                        all.add(Math.max(a, b));
                    }
                }
            }
            default -> {
                for (int code : codes(in.get(0))) {
                    all.add(code == 0 || code == 2 ? 0 : code == 1 ? 1 : code - 1);
                }
            }
        }
        return all;
    }

    private static boolean isSafe(Node n) {
        for (Node inner : n.inside) {
            if (!isSafe(inner)) {
                return false;
            }
        }
        return n.kind != '*' || !codes(n.inside.get(0)).contains(0);
    }

    private static int size(Node n) {
        int sum = 1;
        for (Node inner : n.inside) {
            sum += (n.kind == '*' ? 2 : 1) * size(inner);
        }
        return sum;
    }

    private int wire() {
        gates.add(null);
        return gates.size() - 1;
    }

    private int gate(boolean isAnd, int... literals) {
        int w = wire();
        gates.set(w, new Gate(isAnd, literals));
        return w;
    }

    private int and(int... literals) {
        return gate(true, literals);
    }

    private int or(int... literals) {
        return gate(false, literals);
    }

    private int or(List<Integer> literals) {
        return gate(false, literals.stream().mapToInt(i -> i).toArray());
    }

    /** A local signal in sight: its wire, and the GO wires of its EMITs so far. */
    private record Local(char name, int wire, List<Integer> emits, Local further) {
    }

    private void layOut(Node root) {
        gates = new ArrayList<>();
        things = new ArrayList<>();
        pauses = new ArrayList<>();
        localWires = new ArrayList<>();
        emitsOfOutput = new ArrayList<>();
        inputWire = new int[4];
        outputWire = new int[4];
        for (int i = 0; i < 4; i++) {
            inputWire[i] = wire();
            outputWire[i] = wire();
            emitsOfOutput.add(new ArrayList<>());
        }
        programGo = wire();
        programRes = wire();
        int susp = or();
        top = lay(root, or(programGo), programRes, susp, null, List.of());
        for (int i = 0; i < 4; i++) {
            gates.set(outputWire[i], new Gate(false, emitsOfOutput.get(i).stream().mapToInt(g -> g).toArray()));
        }
    }

    private int signalWire(char name, Local locals) {
        if (name <= 'd') {
            return inputWire[name - 'a'];
        }
        if (name <= 'h') {
            return outputWire[name - 'e'];
        }
        Local l = locals;
        while (l.name != name) {
            l = l.further;
        }
        return l.wire;
    }

    private List<Integer> emitsOf(char name, Local locals) {
        if (name <= 'h') {
            return emitsOfOutput.get(name - 'e');
        }
        Local l = locals;
        while (l.name != name) {
            l = l.further;
        }
        return l.emits;
    }

    private Thing lay(Node n, int go, int res, int susp, Local locals, List<Integer> killers) {
        Thing t = new Thing();
        things.add(t);
        t.go = go;
        t.res = res;
        t.susp = susp;
        t.killers.addAll(killers);
        for (int k = 0; k < 6; k++) {
            t.k[k] = wire();
        }
        t.sel = wire();
        int[][] parts = new int[6][0];
        List<Thing> in = new ArrayList<>();
        switch (n.kind) {
            case '0' -> parts[0] = new int[] {go};
            case '!' -> {
                parts[0] = new int[] {go};
                emitsOf(n.signal, locals).add(go);
            }
            case 'X' -> parts[n.mark] = new int[] {go};
            case '1' -> {
                t.register = pauses.size();
                pauses.add(t);
                parts[0] = new int[] {and(t.sel, res)};
                parts[1] = new int[] {go};
            }
            case '?' -> {
                int s = signalWire(n.signal, locals);
                in.add(lay(n.inside.get(0), and(go, s), res, susp, locals, killers));
                in.add(lay(n.inside.get(1), and(go, ~s), res, susp, locals, killers));
                parts = bothK(in);
            }
            case '&' -> {
                int s = signalWire(n.signal, locals);
                int held = and(res, t.sel, s);
                in.add(lay(n.inside.get(0), go, and(res, t.sel, ~s), or(susp, held), locals, killers));
                parts = sameK(in.get(0));
                parts[1] = new int[] {in.get(0).k[1], held};
            }
            case ';' -> {
                in.add(lay(n.inside.get(0), go, res, susp, locals, killers));
                in.add(lay(n.inside.get(1), or(in.get(0).k[0]), res, susp, locals, killers));
                parts = bothK(in);
                parts[0] = new int[] {in.get(1).k[0]};
            }
            case '*' -> {
                int again = wire();
                in.add(lay(n.inside.get(0), or(go, again), res, susp, locals, killers));
                in.add(lay(n.inside.get(0), or(in.get(0).k[0]), res, susp, locals, killers));
                gates.set(again, new Gate(false, new int[] {in.get(1).k[0]}));
                parts = bothK(in);
                parts[0] = new int[0];
            }
            case '\\' -> {
                int s = wire();
                localWires.add(s);
                Local mine = new Local(n.signal, s, new ArrayList<>(), locals);
                in.add(lay(n.inside.get(0), go, res, susp, mine, killers));
                gates.set(s, new Gate(false, mine.emits.stream().mapToInt(g -> g).toArray()));
                parts = sameK(in.get(0));
            }
            case '{' -> {
                int k2 = wire();
                List<Integer> more = new ArrayList<>(killers);
                more.add(k2);
                in.add(lay(n.inside.get(0), go, res, susp, locals, more));
                int[] k = in.get(0).k;
                gates.set(k2, new Gate(false, new int[] {k[2]}));
                parts = new int[][] {{k[0], k[2]}, {k[1]}, {k[3]}, {k[4]}, {k[5]}, {}};
            }
            default -> {
                in.add(lay(n.inside.get(0), go, res, susp, locals, killers));
                in.add(lay(n.inside.get(1), go, res, susp, locals, killers));
                parts = parK(in.get(0), in.get(1));
            }
        }
        for (int k = 0; k < 6; k++) {
            gates.set(t.k[k], new Gate(false, parts[k]));
        }
        if (n.kind != '1') {
            gates.set(t.sel, new Gate(false, in.stream().mapToInt(i -> i.sel).toArray()));
        }
        return t;
    }

    private static int[][] sameK(Thing inner) {
        int[][] parts = new int[6][];
        for (int k = 0; k < 6; k++) {
            parts[k] = new int[] {inner.k[k]};
        }
        return parts;
    }

    private static int[][] bothK(List<Thing> in) {
        int[][] parts = new int[6][];
        for (int k = 0; k < 6; k++) {
            parts[k] = new int[] {in.get(0).k[k], in.get(1).k[k]};
        }
        return parts;
    }

    private int[][] parK(Thing p, Thing q) {
        List<Integer> ofP = new ArrayList<>(List.of(and(~p.sel, q.sel)));
        List<Integer> ofQ = new ArrayList<>(List.of(and(~q.sel, p.sel)));
        int[][] parts = new int[6][];
        for (int k = 0; k < 6; k++) {
            ofP.add(p.k[k]);
            ofQ.add(q.k[k]);
            parts[k] = new int[] {and(or(ofP), or(ofQ), or(p.k[k], q.k[k]))};
        }
        return parts;
    }

    /** What every wire is in an instant of the state with the inputs. */
    private int[] instant(State from, int inputs) {
        int[] value = new int[gates.size()];
        java.util.Arrays.fill(value, UNKNOWN);
        for (int i = 0; i < 4; i++) {
            value[inputWire[i]] = inputs >> i & 1;
        }
        value[programGo] = from.begun ? ZERO : ONE;
        value[programRes] = from.begun ? ONE : ZERO;
        for (Thing pause : pauses) {
            value[pause.sel] = from.registers.get(pause.register);
        }
        boolean more = true;
        while (more) {
            more = false;
            for (int w = gates.size() - 1; w >= 0; w--) {
                Gate g = gates.get(w);
                if (g != null && value[w] == UNKNOWN) {
                    value[w] = valueOf(g, value);
                    more |= value[w] != UNKNOWN;
                }
            }
        }
        return value;
    }

    private static int valueOf(Gate g, int[] value) {
        int strong = g.isAnd ? ZERO : ONE;
        boolean allKnown = true;
        for (int literal : g.literals) {
            int v = literal >= 0 ? value[literal] : value[~literal] == UNKNOWN ? UNKNOWN : 1 - value[~literal];
            if (v == strong) {
                return strong;
            }
            allKnown &= v != UNKNOWN;
        }
        return allKnown ? 1 - strong : UNKNOWN;
    }

    private int unknownIn(int[] value) {
        int sum = 0;
        for (Thing t : things) {
            for (int k = 0; k < 6; k++) {
                sum += value[t.k[k]] == UNKNOWN ? 1 : 0;
            }
            sum += value[t.sel] == UNKNOWN ? 1 : 0;
            sum += value[t.go] == UNKNOWN ? 1 : 0;
        }
        for (int w : outputWire) {
            sum += value[w] == UNKNOWN ? 1 : 0;
        }
        for (int w : localWires) {
            sum += value[w] == UNKNOWN ? 1 : 0;
        }
        return sum;
    }

    private int outputsThatAre(int wanted, int[] value) {
        int sum = 0;
        for (int i = 0; i < 4; i++) {
            sum += value[outputWire[i]] == wanted ? 1 << i : 0;
        }
        return sum;
    }

    private State next(State from, int[] value) {
        List<Integer> registers = new ArrayList<>();
        for (Thing p : pauses) {
            boolean killed = false;
            for (int k2 : p.killers) {
                killed |= value[k2] == ONE;
            }
            boolean held = value[p.susp] == ONE && from.registers.get(p.register) == 1;
            registers.add(!killed && (value[p.go] == ONE || held) ? 1 : 0);
        }
        return new State(true, registers);
    }

    private State beginning() {
        List<Integer> zeros = new ArrayList<>();
        for (int i = 0; i < pauses.size(); i++) {
            zeros.add(0);
        }
        return new State(false, zeros);
    }

    private void toBeginning() {
        state = beginning();
        ended = false;
        decided = 0;
    }

    int react(int inputs) {
        if (!hasProgram || ended || inputs < 0 || inputs > 15) {
            return -1;
        }
        int[] value = instant(state, inputs);
        latestOutputs = outputsThatAre(ONE, value);
        latestOpen = outputsThatAre(UNKNOWN, value);
        latestUnknown = unknownIn(value);
        if (latestUnknown > 0) {
            return 2;
        }
        decided++;
        state = next(state, value);
        if (value[top.k[0]] == ONE) {
            registerAtEnd |= state.registers.contains(1);
            state = new State(true, beginning().registers);
            ended = true;
            return 1;
        }
        return 0;
    }

    boolean restart() {
        if (hasProgram) {
            toBeginning();
        }
        return hasProgram;
    }

    int outputs() {
        return latestOutputs;
    }

    int open() {
        return latestOpen;
    }

    int registers(int part) {
        int bits = 0;
        for (int i = 0; hasProgram && i < state.registers.size(); i++) {
            if (i / 32 == part && state.registers.get(i) == 1) {
                bits |= 1 << i % 32;
            }
        }
        return bits;
    }

    int look(int what) {
        return switch (what) {
            case 0 -> !hasProgram ? 0 : ended ? 3 : state.begun ? 2 : 1;
            case 1 -> things.size();
            case 2 -> pauses.size();
            case 3 -> latestUnknown;
            case 4 -> decided;
            default -> -1;
        };
    }

    int states() {
        if (!hasProgram) {
            return -1;
        }
        Set<State> seen = new HashSet<>(Set.of(beginning()));
        LinkedHashSet<State> toDo = new LinkedHashSet<>(seen);
        int[] sums = new int[3];
        while (!toDo.isEmpty()) {
            State from = toDo.iterator().next();
            toDo.remove(from);
            for (int inputs = 0; inputs < 16; inputs++) {
                int[] value = instant(from, inputs);
                if (unknownIn(value) > 0) {
                    sums[0]++;
                    continue;
                }
                sums[2] |= outputsThatAre(ONE, value);
                State to = next(from, value);
                if (value[top.k[0]] == ONE) {
                    sums[1]++;
                    registerAtEnd |= to.registers.contains(1);
                } else if (seen.add(to)) {
                    toDo.add(to);
                }
                if (seen.size() > 30) {
                    return -2;
                }
            }
        }
        tallies = sums;
        return seen.size();
    }

    int found(int what) {
        return what < 0 || what > 2 ? 0 : tallies[what];
    }
}
