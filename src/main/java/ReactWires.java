import java.util.Arrays;

/**
 * A small language for things that react. A line of text becomes a program, the program is laid out
 * as wires, and each instant finds what the wires are without guessing.
 *
 * <p>Every row is made once, in a constructor, and used again by each call, so that calls make no
 * objects at all.
 */
public final class ReactWires {
    private static final int NONE = -1;

    private static final int LONGEST_LINE = 60;
    private static final int DEEPEST_UNIT = 12;
    private static final int MOST_THINGS = 120;
    private static final int MOST_STATES = 30;
    private static final int ALL_INPUTS = 15;
    private static final int OUTPUTS = 4;

    /** Registers are held as bits, 32 a word; no program has more of them than things. */
    private static final int WORDS = 4;

    private static final int FIRST_OUTPUT = 4;
    private static final int FIRST_LOCAL = 8;
    private static final int LOCAL_NAMES = 8;

    private static final int NOTHING = 0;
    private static final int PAUSE = 1;
    private static final int EMIT = 2;
    private static final int EXIT = 3;
    private static final int PRESENT = 4;
    private static final int SUSPEND = 5;
    private static final int LOOP = 6;
    private static final int TRAP = 7;
    private static final int LOCAL = 8;
    private static final int SEQ = 9;
    private static final int PAR = 10;

    private static final int NO_PROGRAM = 0;
    private static final int AT_BEGINNING = 1;
    private static final int UNDER_WAY = 2;
    private static final int ENDED = 3;

    private static final int NO_SEQ = -1;
    private static final int LIES_WRONG = -2;
    private static final int NOT_SAFE = -3;
    private static final int TOO_LARGE = -4;

    private static final int REFUSED = -1;
    private static final int GOES_ON = 0;
    private static final int HAS_ENDED = 1;
    private static final int UNDECIDED = 2;

    private final Line line = new Line();
    private final Tree tree = new Tree();
    private final Wires wires = new Wires();
    private final Search search = new Search();
    private final int[] current = new int[WORDS];
    private int phase = NO_PROGRAM;
    private int decidedInstants;
    private int latestOutputs;
    private int latestOpen;
    private int latestUnknown;

    public ReactWires() {
    }

    public boolean type(char c) {
        return line.append(c);
    }

    public void wipe() {
        line.clear();
    }

    public int load() {
        int refusal = tree.refusalOf(line);
        if (refusal < 0) {
            return refusal;
        }
        wires.layOut(tree);
        search.forget();
        line.clear();
        latestOutputs = 0;
        latestOpen = 0;
        latestUnknown = 0;
        goToBeginning();
        return wires.registerCount();
    }

    public int react(int inputs) {
        boolean canReact = phase == AT_BEGINNING || phase == UNDER_WAY;
        if (!canReact || inputs < 0 || inputs > ALL_INPUTS) {
            return REFUSED;
        }
        wires.runInstant(current, 0, phase == UNDER_WAY);
        latestOutputs = wires.outputsThatAreOne(inputs);
        latestOpen = wires.outputsThatAreUnknown(inputs);
        latestUnknown = wires.unknownWires(inputs);
        if (((wires.undecidedLanes() >>> inputs) & 1) == 1) {
            return UNDECIDED;
        }
        decidedInstants++;
        if (((wires.endedLanes() >>> inputs) & 1) == 1) {
            phase = ENDED;
            Arrays.fill(current, 0);
            return HAS_ENDED;
        }
        phase = UNDER_WAY;
        wires.copyNextRegisters(inputs, current);
        return GOES_ON;
    }

    public boolean restart() {
        if (phase == NO_PROGRAM) {
            return false;
        }
        goToBeginning();
        return true;
    }

    public int outputs() {
        return latestOutputs;
    }

    public int open() {
        return latestOpen;
    }

    public int registers(int part) {
        return part < 0 || part >= WORDS ? 0 : current[part];
    }

    public int look(int what) {
        switch (what) {
            case 0:
                return phase;
            case 1:
                return wires.thingCount();
            case 2:
                return wires.registerCount();
            case 3:
                return latestUnknown;
            case 4:
                return decidedInstants;
            default:
                return -1;
        }
    }

    public int states() {
        return phase == NO_PROGRAM ? REFUSED : search.lookThrough(wires);
    }

    public int found(int what) {
        return search.tally(what);
    }

    private void goToBeginning() {
        phase = AT_BEGINNING;
        decidedInstants = 0;
        Arrays.fill(current, 0);
    }

    /** The typed characters, and the place that reading has come to. */
    private static final class Line {
        private static final char LOWEST = 33;
        private static final char HIGHEST = 126;
        private static final char END = 0;

        private final char[] text = new char[LONGEST_LINE];
        private int length;
        private int at;

        boolean append(char c) {
            if (c < LOWEST || c > HIGHEST || length >= LONGEST_LINE) {
                return false;
            }
            text[length] = c;
            length++;
            return true;
        }

        void clear() {
            length = 0;
        }

        void rewind() {
            at = 0;
        }

        boolean isReadWhole() {
            return at >= length;
        }

        char take() {
            if (at < 0 || at >= length) {
                return END;
            }
            char c = text[at];
            at++;
            return c;
        }

        boolean skip(char c) {
            if (at < 0 || at >= length || text[at] != c) {
                return false;
            }
            at++;
            return true;
        }
    }

    /**
     * The line as a tree. What lies inside a node is always added before it, so a walk upwards by
     * number meets the inner ones first, and a walk downwards the outer ones first.
     */
    private static final class Tree {
        /** Each node takes at least one character of the line, ( ) being none. */
        private static final int MOST_NODES = LONGEST_LINE;

        private final int[] kind = new int[MOST_NODES];
        /** A signal's number, or an EXIT's digit. */
        private final int[] mark = new int[MOST_NODES];
        private final int[] first = new int[MOST_NODES];
        private final int[] second = new int[MOST_NODES];
        /** Bit k is set if the node can end with code k at once. */
        private final int[] codes = new int[MOST_NODES];
        private final int[] things = new int[MOST_NODES];
        private final int[] trapsAround = new int[MOST_NODES];
        /** Bit i is set if a LOCAL of the i-th local name lies around the node. */
        private final int[] localsAround = new int[MOST_NODES];
        private int count;

        int refusalOf(Line line) {
            line.rewind();
            count = 0;
            int root = readSeq(line, 1);
            if (root == NONE || !line.isReadWhole()) {
                return NO_SEQ;
            }
            if (!allLieRight()) {
                return LIES_WRONG;
            }
            if (!allLoopsAreSafe()) {
                return NOT_SAFE;
            }
            return thingsOfAll() > MOST_THINGS ? TOO_LARGE : 0;
        }

        /** The root is added last. */
        int root() {
            return count - 1;
        }

        private int readSeq(Line line, int depth) {
            int left = readPar(line, depth);
            for (int more = 0; more < LONGEST_LINE && left != NONE && line.skip(';'); more++) {
                left = addPair(SEQ, 0, left, readPar(line, depth));
            }
            return left;
        }

        private int readPar(Line line, int depth) {
            int left = readUnit(line, depth);
            for (int more = 0; more < LONGEST_LINE && left != NONE && line.skip('|'); more++) {
                left = addPair(PAR, 0, left, readUnit(line, depth));
            }
            return left;
        }

        private int readUnit(Line line, int depth) {
            if (depth > DEEPEST_UNIT) {
                return NONE;
            }
            switch (line.take()) {
                case '0':
                    return add(NOTHING, 0, NONE, NONE);
                case '1':
                    return add(PAUSE, 0, NONE, NONE);
                case '!':
                    return readEmit(line);
                case '^':
                    return readExit(line);
                case '?':
                    return readPresent(line, depth);
                case '&':
                    return readSuspend(line, depth);
                case '*':
                    return addAround(LOOP, 0, readUnit(line, depth + 1));
                case '\\':
                    return readLocal(line, depth);
                case '{':
                    return addAround(TRAP, 0, readClosedSeq(line, depth + 1, '}'));
                case '(':
                    return readClosedSeq(line, depth + 1, ')');
                default:
                    return NONE;
            }
        }

        private int readEmit(Line line) {
            int signal = signalOf(line.take());
            return signal < FIRST_OUTPUT ? NONE : add(EMIT, signal, NONE, NONE);
        }

        private int readExit(Line line) {
            char digit = line.take();
            return digit < '2' || digit > '5' ? NONE : add(EXIT, digit - '0', NONE, NONE);
        }

        private int readPresent(Line line, int depth) {
            int signal = signalOf(line.take());
            int there = signal == NONE ? NONE : readUnit(line, depth + 1);
            if (there == NONE || !line.skip(':')) {
                return NONE;
            }
            return addPair(PRESENT, signal, there, readUnit(line, depth + 1));
        }

        private int readSuspend(Line line, int depth) {
            int signal = signalOf(line.take());
            return signal == NONE ? NONE : addAround(SUSPEND, signal, readUnit(line, depth + 1));
        }

        private int readLocal(Line line, int depth) {
            int signal = signalOf(line.take());
            return signal < FIRST_LOCAL ? NONE : addAround(LOCAL, signal, readUnit(line, depth + 1));
        }

        private int readClosedSeq(Line line, int depth, char close) {
            int seq = readSeq(line, depth);
            return seq != NONE && line.skip(close) ? seq : NONE;
        }

        /** Inputs are 0 to 3, outputs 4 to 7, local ones 8 to 15. */
        private static int signalOf(char c) {
            if (c >= 'a' && c <= 'h') {
                return c - 'a';
            }
            return c >= 's' && c <= 'z' ? FIRST_LOCAL + (c - 's') : NONE;
        }

        private int addAround(int newKind, int newMark, int inside) {
            return inside == NONE ? NONE : add(newKind, newMark, inside, NONE);
        }

        private int addPair(int newKind, int newMark, int left, int right) {
            return left == NONE || right == NONE ? NONE : add(newKind, newMark, left, right);
        }

        private int add(int newKind, int newMark, int left, int right) {
            if (count >= MOST_NODES) {
                return NONE;
            }
            int node = count;
            count++;
            kind[node] = newKind;
            mark[node] = newMark;
            first[node] = left;
            second[node] = right;
            return node;
        }

        private boolean allLieRight() {
            if (count > 0) {
                trapsAround[count - 1] = 0;
                localsAround[count - 1] = 0;
            }
            for (int node = count - 1; node >= 0; node--) {
                if (!liesRight(node)) {
                    return false;
                }
                tellAround(node, first[node]);
                tellAround(node, second[node]);
            }
            return true;
        }

        private boolean liesRight(int node) {
            switch (kind[node]) {
                case EXIT:
                    return trapsAround[node] >= mark[node] - 1;
                case EMIT:
                case PRESENT:
                case SUSPEND:
                    return mark[node] < FIRST_LOCAL || (localsAround[node] & localBit(node)) != 0;
                default:
                    return true;
            }
        }

        private void tellAround(int node, int inside) {
            if (inside == NONE) {
                return;
            }
            trapsAround[inside] = trapsAround[node] + (kind[node] == TRAP ? 1 : 0);
            localsAround[inside] = localsAround[node] | (kind[node] == LOCAL ? localBit(node) : 0);
        }

        private int localBit(int node) {
            return 1 << (mark[node] - FIRST_LOCAL);
        }

        private boolean allLoopsAreSafe() {
            for (int node = 0; node < count; node++) {
                codes[node] = codesOf(node);
                if (kind[node] == LOOP && (inside(codes, first[node]) & 1) != 0) {
                    return false;
                }
            }
            return true;
        }

        private int codesOf(int node) {
            int left = inside(codes, first[node]);
            int right = inside(codes, second[node]);
            switch (kind[node]) {
                case PAUSE:
                    return 1 << 1;
                case EXIT:
                    return 1 << mark[node];
                case PRESENT:
                    return left | right;
                case SUSPEND:
                case LOCAL:
                    return left;
                case SEQ:
                    return (left & ~1) | ((left & 1) != 0 ? right : 0);
                case PAR:
                    return greaterCodes(left, right);
                case LOOP:
                    return left & ~1;
                case TRAP:
                    return (left & 3) | ((left & 4) != 0 ? 1 : 0) | ((left >> 3) << 2);
                default:
                    return 1;
            }
        }

        private static int greaterCodes(int left, int right) {
            int greater = 0;
            for (int code = 0; code < Wires.CODES; code++) {
                int upTo = (2 << code) - 1;
                boolean leftIsIt = ((left >> code) & 1) != 0 && (right & upTo) != 0;
                boolean rightIsIt = ((right >> code) & 1) != 0 && (left & upTo) != 0;
                greater |= leftIsIt || rightIsIt ? 1 << code : 0;
            }
            return greater;
        }

        private int thingsOfAll() {
            for (int node = 0; node < count; node++) {
                int left = inside(things, first[node]);
                int right = kind[node] == LOOP ? left : inside(things, second[node]);
                things[node] = 1 + left + right;
            }
            return inside(things, root());
        }

        private static int inside(int[] row, int node) {
            return node < 0 || node >= row.length ? 0 : row[node];
        }
    }

    /**
     * The program laid out, and an instant of it.
     *
     * <p>A wire is one int with sixteen lanes, one for each choice of inputs, so that an instant is
     * worked out for all inputs side by side: bit i is set if the wire is 1 with inputs i, bit 16 + i
     * if it is 0 then, and neither of them while it is UNKNOWN.
     */
    private static final class Wires {
        private static final int CODES = 6;
        private static final int LANES = 0xFFFF;
        private static final int ONE = 0x0000FFFF;
        private static final int ZERO = 0xFFFF0000;
        private static final int UNKNOWN = 0;
        /** An input is 1 in the lanes whose number has its bit. */
        private static final int[] INPUT_WIRES = {0x5555AAAA, 0x3333CCCC, 0x0F0FF0F0, 0x00FFFF00};
        /**
         * Lanes have nothing to do with one another, and one in which a sweep finds nothing new is done:
         * there can't be more sweeps than wires, and there are fewer of these.
         */
        private static final int MOST_SWEEPS = 2000;

        private final int[] kind = new int[MOST_THINGS];
        private final int[] around = new int[MOST_THINGS];
        private final int[] first = new int[MOST_THINGS];
        private final int[] second = new int[MOST_THINGS];
        /** A signal's wire, an EXIT's digit, or a PAUSE's register. */
        private final int[] mark = new int[MOST_THINGS];
        /** Coming into a thing is its number, leaving it the complement: inner ones lie between. */
        private final int[] steps = new int[2 * MOST_THINGS];
        private final int[] localWire = new int[LOCAL_NAMES];
        private int count;
        private int stepCount;
        private int registerCount;
        private int signalCount;

        private final int[] go = new int[MOST_THINGS];
        private final int[] res = new int[MOST_THINGS];
        private final int[] susp = new int[MOST_THINGS];
        private final int[] sel = new int[MOST_THINGS];
        private final int[] ends = new int[MOST_THINGS * CODES];
        private final int[] killed = new int[MOST_THINGS];
        private final int[] signals = new int[FIRST_LOCAL + MOST_THINGS];
        private final int[] emitted = new int[FIRST_LOCAL + MOST_THINGS];
        private boolean changed;

        int thingCount() {
            return count;
        }

        int registerCount() {
            return registerCount;
        }

        void layOut(Tree tree) {
            count = 0;
            stepCount = 0;
            registerCount = 0;
            signalCount = FIRST_LOCAL;
            Arrays.fill(localWire, FIRST_LOCAL);
            lay(tree, tree.root(), NONE);
        }

        /** Each level takes one more thing, so that their limit bounds the depth too. */
        private int lay(Tree tree, int node, int outer) {
            if (node < 0 || node >= tree.count || count >= MOST_THINGS) {
                return NONE;
            }
            int thing = count;
            count++;
            kind[thing] = tree.kind[node];
            around[thing] = outer;
            addStep(thing);
            if (kind[thing] == LOCAL) {
                layLocal(tree, node, thing);
            } else {
                mark[thing] = newMark(tree, node);
                layInside(tree, node, thing);
            }
            addStep(~thing);
            return thing;
        }

        private void addStep(int step) {
            if (stepCount < steps.length) {
                steps[stepCount] = step;
                stepCount++;
            }
        }

        private void layLocal(Tree tree, int node, int thing) {
            int wire = signalCount;
            signalCount++;
            mark[thing] = wire;
            int hidden = bind(tree.mark[node], wire);
            layInside(tree, node, thing);
            bind(tree.mark[node], hidden);
        }

        /** Answers the wire that the local signal had further out. */
        private int bind(int signal, int wire) {
            int hidden = wireOf(signal);
            int name = signal - FIRST_LOCAL;
            if (name >= 0 && name < LOCAL_NAMES) {
                localWire[name] = wire;
            }
            return hidden;
        }

        private int wireOf(int signal) {
            int name = signal - FIRST_LOCAL;
            return name < 0 || name >= LOCAL_NAMES ? signal : localWire[name];
        }

        private void layInside(Tree tree, int node, int thing) {
            int left = tree.first[node];
            int right = kind[thing] == LOOP ? left : tree.second[node];
            first[thing] = lay(tree, left, thing);
            second[thing] = lay(tree, right, thing);
        }

        private int newMark(Tree tree, int node) {
            switch (tree.kind[node]) {
                case PAUSE:
                    registerCount++;
                    return registerCount - 1;
                case EMIT:
                case PRESENT:
                case SUSPEND:
                    return wireOf(tree.mark[node]);
                default:
                    return tree.mark[node];
            }
        }

        /** The registers are the words from the given place on. */
        void runInstant(int[] words, int from, boolean isLater) {
            forgetWires();
            select(words, from);
            changed = true;
            for (int sweep = 0; sweep < MOST_SWEEPS && changed; sweep++) {
                changed = false;
                sweepOnce(isLater);
            }
            findKilled();
        }

        private void forgetWires() {
            Arrays.fill(go, UNKNOWN);
            Arrays.fill(res, UNKNOWN);
            Arrays.fill(susp, UNKNOWN);
            Arrays.fill(ends, UNKNOWN);
            Arrays.fill(signals, UNKNOWN);
            for (int input = 0; input < FIRST_OUTPUT; input++) {
                signals[input] = INPUT_WIRES[input];
            }
        }

        private void select(int[] words, int from) {
            for (int thing = count - 1; thing >= 0; thing--) {
                if (kind[thing] == PAUSE) {
                    sel[thing] = isSet(words, from, mark[thing]) ? ONE : ZERO;
                } else {
                    sel[thing] = or(selOf(first[thing]), selOf(second[thing]));
                }
            }
        }

        private static boolean isSet(int[] words, int from, int register) {
            int word = from + (register >> 5);
            return word >= 0 && word < words.length && ((words[word] >>> (register & 31)) & 1) == 1;
        }

        private int selOf(int thing) {
            return thing < 0 || thing >= count ? ZERO : sel[thing];
        }

        private void sweepOnce(boolean isLater) {
            Arrays.fill(emitted, ZERO);
            for (int step = 0; step < stepCount; step++) {
                if (steps[step] >= 0) {
                    comeInto(steps[step], isLater);
                } else {
                    leave(~steps[step]);
                }
            }
            for (int signal = FIRST_OUTPUT; signal < signalCount; signal++) {
                put(signals, signal, emitted[signal]);
            }
        }

        private void comeInto(int thing, boolean isLater) {
            int outer = around[thing];
            if (outer == NONE) {
                put(go, thing, isLater ? ZERO : ONE);
                put(res, thing, isLater ? ONE : ZERO);
                put(susp, thing, ZERO);
            } else {
                put(go, thing, goInside(outer, first[outer] == thing));
                put(res, thing, resInside(outer));
                put(susp, thing, suspInside(outer));
            }
            if (kind[thing] == EMIT) {
                emit(mark[thing], go[thing]);
            }
        }

        private void emit(int signal, int wire) {
            if (signal >= 0 && signal < emitted.length) {
                emitted[signal] = or(emitted[signal], wire);
            }
        }

        private int signalWire(int thing) {
            int signal = mark[thing];
            return signal < 0 || signal >= signals.length ? ZERO : signals[signal];
        }

        private int goInside(int outer, boolean isFirst) {
            switch (kind[outer]) {
                case PRESENT:
                    return and(go[outer], isFirst ? signalWire(outer) : not(signalWire(outer)));
                case SEQ:
                    return isFirst ? go[outer] : end(first[outer], 0);
                case LOOP:
                    return isFirst ? or(go[outer], end(second[outer], 0)) : end(first[outer], 0);
                default:
                    return go[outer];
            }
        }

        private int resInside(int outer) {
            if (kind[outer] != SUSPEND) {
                return res[outer];
            }
            return and(and(res[outer], sel[outer]), not(signalWire(outer)));
        }

        private int suspInside(int outer) {
            return kind[outer] == SUSPEND ? or(susp[outer], heldBack(outer)) : susp[outer];
        }

        private int heldBack(int suspend) {
            return and(and(res[suspend], sel[suspend]), signalWire(suspend));
        }

        private void leave(int thing) {
            if (kind[thing] == PAR) {
                leavePar(thing);
                return;
            }
            for (int code = 0; code < CODES; code++) {
                put(ends, thing * CODES + code, endOf(thing, code));
            }
        }

        /** A side that is dead does not hold the other one up. */
        private void leavePar(int par) {
            int left = first[par];
            int right = second[par];
            int leftUpTo = and(not(selOf(left)), selOf(right));
            int rightUpTo = and(not(selOf(right)), selOf(left));
            for (int code = 0; code < CODES; code++) {
                leftUpTo = or(leftUpTo, end(left, code));
                rightUpTo = or(rightUpTo, end(right, code));
                int both = and(leftUpTo, rightUpTo);
                put(ends, par * CODES + code, and(both, endOfEither(par, code)));
            }
        }

        private int endOf(int thing, int code) {
            switch (kind[thing]) {
                case PAUSE:
                    return code == 0 ? and(sel[thing], res[thing]) : onlyFor(1, code, go[thing]);
                case EXIT:
                    return onlyFor(mark[thing], code, go[thing]);
                case PRESENT:
                    return endOfEither(thing, code);
                case SUSPEND:
                    return code == 1 ? or(end(first[thing], 1), heldBack(thing)) : end(first[thing], code);
                case LOCAL:
                    return end(first[thing], code);
                case SEQ:
                    return code == 0 ? end(second[thing], 0) : endOfEither(thing, code);
                case LOOP:
                    return code == 0 ? ZERO : endOfEither(thing, code);
                case TRAP:
                    return endOfTrap(thing, code);
                default:
                    return onlyFor(0, code, go[thing]);
            }
        }

        private static int onlyFor(int wanted, int code, int wire) {
            return code == wanted ? wire : ZERO;
        }

        private int endOfEither(int thing, int code) {
            return or(end(first[thing], code), end(second[thing], code));
        }

        private int endOfTrap(int trap, int code) {
            if (code == 0) {
                return or(end(first[trap], 0), end(first[trap], 2));
            }
            if (code == 1) {
                return end(first[trap], 1);
            }
            return code + 1 < CODES ? end(first[trap], code + 1) : ZERO;
        }

        private int end(int thing, int code) {
            int place = thing * CODES + code;
            return place < 0 || place >= ends.length ? ZERO : ends[place];
        }

        private void put(int[] row, int place, int wire) {
            if (place >= 0 && place < row.length && row[place] != wire) {
                row[place] = wire;
                changed = true;
            }
        }

        private void findKilled() {
            for (int thing = 0; thing < count; thing++) {
                int outer = around[thing];
                int byTrap = outer != NONE && kind[outer] == TRAP ? end(thing, 2) & LANES : 0;
                killed[thing] = byTrap | (outer == NONE ? 0 : killed[outer]);
            }
        }

        /** Bit i is set if the instant is UNDECIDED with inputs i. */
        int undecidedLanes() {
            int lanes = 0;
            for (int thing = 0; thing < count; thing++) {
                lanes |= unknownLanes(go[thing]) | unknownLanes(sel[thing]);
                for (int code = 0; code < CODES; code++) {
                    lanes |= unknownLanes(end(thing, code));
                }
            }
            for (int signal = 0; signal < signalCount; signal++) {
                lanes |= unknownLanes(signals[signal]);
            }
            return lanes;
        }

        int unknownWires(int lane) {
            int unknown = 0;
            for (int thing = 0; thing < count; thing++) {
                unknown += isUnknown(go[thing], lane) + isUnknown(sel[thing], lane);
                for (int code = 0; code < CODES; code++) {
                    unknown += isUnknown(end(thing, code), lane);
                }
            }
            for (int signal = 0; signal < signalCount; signal++) {
                unknown += isUnknown(signals[signal], lane);
            }
            return unknown;
        }

        /** Bit i is set if K0 of the program is 1 with inputs i. */
        int endedLanes() {
            return count == 0 ? 0 : end(0, 0) & LANES;
        }

        int lanesWithOutput(int output) {
            return output < 0 || output >= OUTPUTS ? 0 : signals[FIRST_OUTPUT + output] & LANES;
        }

        int outputsThatAreOne(int lane) {
            int outputs = 0;
            for (int output = 0; output < OUTPUTS; output++) {
                outputs |= ((lanesWithOutput(output) >>> lane) & 1) << output;
            }
            return outputs;
        }

        int outputsThatAreUnknown(int lane) {
            int outputs = 0;
            for (int output = 0; output < OUTPUTS; output++) {
                outputs |= isUnknown(signals[FIRST_OUTPUT + output], lane) << output;
            }
            return outputs;
        }

        void copyNextRegisters(int lane, int[] words) {
            Arrays.fill(words, 0);
            for (int thing = 0; thing < count; thing++) {
                int word = mark[thing] >> 5;
                if (kind[thing] == PAUSE && word >= 0 && word < words.length) {
                    words[word] |= ((staysLanes(thing) >>> lane) & 1) << (mark[thing] & 31);
                }
            }
        }

        private int staysLanes(int pause) {
            return (go[pause] | (susp[pause] & sel[pause])) & ~killed[pause] & LANES;
        }

        private static int isUnknown(int wire, int lane) {
            return (unknownLanes(wire) >>> lane) & 1;
        }

        private static int unknownLanes(int wire) {
            return ~(wire | (wire >>> 16)) & LANES;
        }

        private static int and(int a, int b) {
            return (a & b & ONE) | ((a | b) & ZERO);
        }

        private static int or(int a, int b) {
            return ((a | b) & ONE) | (a & b & ZERO);
        }

        private static int not(int a) {
            return (a << 16) | (a >>> 16);
        }
    }

    /**
     * The search through the reached states. What it answers hangs on the program alone, so it is
     * kept until another program comes.
     */
    private static final class Search {
        private static final int NOT_YET = 0;
        private static final int TOO_MANY = -2;

        /** State 0 is the beginning; in all others the first instant was. */
        private final int[] reached = new int[MOST_STATES * WORDS];
        private final int[] next = new int[WORDS];
        private int count;
        private int answer = NOT_YET;
        private int undecidedPairs;
        private int endingPairs;
        private int givenOutputs;

        void forget() {
            answer = NOT_YET;
        }

        int lookThrough(Wires wires) {
            if (answer != NOT_YET) {
                return answer;
            }
            begin();
            boolean fits = true;
            for (int state = 0; fits && state < count && state < MOST_STATES; state++) {
                wires.runInstant(reached, state * WORDS, state > 0);
                int decided = ~wires.undecidedLanes() & Wires.LANES;
                int ending = wires.endedLanes() & decided;
                addToTallies(wires, decided, ending);
                fits = reachFrom(wires, decided & ~ending);
            }
            answer = fits ? count : TOO_MANY;
            return answer;
        }

        int tally(int what) {
            if (answer <= 0) {
                return 0;
            }
            switch (what) {
                case 0:
                    return undecidedPairs;
                case 1:
                    return endingPairs;
                case 2:
                    return givenOutputs;
                default:
                    return 0;
            }
        }

        private void begin() {
            Arrays.fill(reached, 0);
            count = 1;
            undecidedPairs = 0;
            endingPairs = 0;
            givenOutputs = 0;
        }

        private void addToTallies(Wires wires, int decided, int ending) {
            undecidedPairs += Integer.bitCount(~decided & Wires.LANES);
            endingPairs += Integer.bitCount(ending);
            for (int output = 0; output < OUTPUTS; output++) {
                if ((wires.lanesWithOutput(output) & decided) != 0) {
                    givenOutputs |= 1 << output;
                }
            }
        }

        private boolean reachFrom(Wires wires, int lanes) {
            for (int lane = 0; lane <= ALL_INPUTS; lane++) {
                if (((lanes >>> lane) & 1) == 1) {
                    wires.copyNextRegisters(lane, next);
                    if (!isKnown() && !keep()) {
                        return false;
                    }
                }
            }
            return true;
        }

        private boolean isKnown() {
            for (int state = 1; state < count; state++) {
                if (isNext(state * WORDS)) {
                    return true;
                }
            }
            return false;
        }

        private boolean isNext(int from) {
            for (int word = 0; word < WORDS; word++) {
                if (reached[from + word] != next[word]) {
                    return false;
                }
            }
            return true;
        }

        private boolean keep() {
            if (count >= MOST_STATES) {
                return false;
            }
            System.arraycopy(next, 0, reached, count * WORDS, WORDS);
            count++;
            return true;
        }
    }
}
