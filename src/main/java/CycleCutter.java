/**
 * A net of gates, cycles allowed, that is laid out anew as multiplexers without any cycle.
 *
 * A set of choices is held as bits of four words, so that all 256 are worked on side by side:
 * choice c is bit c % 64 of word c / 64.
 */
public final class CycleCutter {
    public static final int NONE = -1;

    private static final int INPUT = 0;
    private static final int AND = 2;
    private static final int OR = 3;

    private static final int UNKNOWN = 2;

    private static final int MAX_GATES = 120;
    private static final int MAX_INPUTS = 8;
    private static final int MAX_FEEDS = 500;
    private static final int MAX_OUTPUTS = 10;

    private static final int CHOICES = 256;
    private static final int WORD_BITS = 64;
    private static final int WORDS = CHOICES / WORD_BITS;

    private final Net net;
    private final Layout layout;
    private final int[] outputGates;
    private int outputs;

    public CycleCutter() {
        net = new Net();
        layout = new Layout();
        outputGates = new int[MAX_OUTPUTS];
        outputs = 0;
    }

    public int gate(int sort) throws IllegalArgumentException {
        if (sort != INPUT && sort != AND && sort != OR) {
            throw new IllegalArgumentException("sort is not 0, 2 or 3");
        }
        return net.addGate(sort);
    }

    public int feed(int to, int from, boolean negated)
            throws IndexOutOfBoundsException, IllegalStateException {
        if (!net.hasGate(to) || !net.hasGate(from)) {
            throw new IndexOutOfBoundsException("no such gate");
        }
        if (net.isInput(to)) {
            throw new IllegalStateException("an input takes no feeds");
        }
        return net.addFeed(to, from, negated);
    }

    public int output(int gate) throws IndexOutOfBoundsException {
        if (!net.hasGate(gate)) {
            throw new IndexOutOfBoundsException("no such gate");
        }
        if (outputs >= MAX_OUTPUTS) {
            return NONE;
        }
        int number = outputs;
        outputGates[number] = gate;
        outputs = number + 1;
        return number;
    }

    public int clear() {
        int before = net.gates;
        net.dropAll();
        layout.dropAll();
        outputs = 0;
        return before;
    }

    public int lay() {
        layout.dropAll();
        for (int i = 0; i < outputs; i++) {
            int gate = outputGates[i];
            layout.addOutput(net.highOf(gate), net.lowOf(gate));
        }
        return layout.multiplexers.total();
    }

    public int run(int output, int choice) throws IndexOutOfBoundsException {
        requireLaidOut(output);
        requireChoice(choice);
        return layout.valueOn(output, choice);
    }

    public int way(int output, int choice) throws IndexOutOfBoundsException {
        requireLaidOut(output);
        requireChoice(choice);
        return layout.stepsOn(output, choice);
    }

    public int at(int k) {
        if (k < 0 || k >= MAX_INPUTS) {
            return 0;
        }
        return layout.multiplexers.perInput[k];
    }

    public int size(int output, boolean high) throws IndexOutOfBoundsException {
        requireLaidOut(output);
        int root = high ? layout.highRoots[output] : layout.lowRoots[output];
        return layout.multiplexers.totalBelow(root);
    }

    public int known(int output) throws IndexOutOfBoundsException {
        requireLaidOut(output);
        return layout.knownChoices(output);
    }

    public int doubt(int choice) throws IndexOutOfBoundsException {
        requireChoice(choice);
        return layout.firstDoubtFrom(choice);
    }

    public int value(int gate, int choice) throws IndexOutOfBoundsException {
        if (!net.hasGate(gate)) {
            throw new IndexOutOfBoundsException("no such gate");
        }
        requireChoice(choice);
        return net.valueOn(gate, choice);
    }

    public int count(int what) {
        switch (what) {
            case 0:
                return net.gates;
            case 1:
                return net.feeds;
            case 2:
                return net.inputs;
            case 3:
                return outputs;
            case 4:
                return layout.outputs;
            case 5:
                return layout.multiplexers.total();
            case 6:
                return layout.multiplexers.longest;
            default:
                return NONE;
        }
    }

    private void requireLaidOut(int output) {
        if (output < 0 || output >= layout.outputs) {
            throw new IndexOutOfBoundsException("no such output is laid out");
        }
    }

    private static void requireChoice(int choice) {
        if (choice < 0 || choice >= CHOICES) {
            throw new IndexOutOfBoundsException("choice is not 0 .. 255");
        }
    }

    private static boolean isInputSet(int input, int choice) {
        return ((choice >> (MAX_INPUTS - 1 - input)) & 1) == 1;
    }

    private static boolean isMember(long[] set, int choice) {
        return ((set[choice / WORD_BITS] >>> (choice % WORD_BITS)) & 1L) == 1L;
    }

    /** The gates with their feeds, and on which choices each gate is 1 and 0. */
    private static final class Net {
        private final int[] sorts = new int[MAX_GATES];
        private final int[] firstFeed = new int[MAX_GATES];
        private final int[] feedsOf = new int[MAX_GATES];
        private final int[] feedFrom = new int[MAX_FEEDS];
        private final boolean[] feedNegated = new boolean[MAX_FEEDS];
        private final int[] nextFeed = new int[MAX_FEEDS];
        private final long[][] high = new long[MAX_GATES][WORDS];
        private final long[][] low = new long[MAX_GATES][WORDS];
        private int gates = 0;
        private int feeds = 0;
        private int inputs = 0;
        // Many calls may ask between two changes of the net: they share one settling.
        private boolean settled = false;

        void dropAll() {
            gates = 0;
            feeds = 0;
            inputs = 0;
            settled = false;
        }

        boolean hasGate(int gate) {
            return gate >= 0 && gate < gates;
        }

        boolean isInput(int gate) {
            return sorts[gate] == INPUT;
        }

        int addGate(int sort) {
            if (gates >= MAX_GATES || (sort == INPUT && inputs >= MAX_INPUTS)) {
                return NONE;
            }
            int gate = gates;
            sorts[gate] = sort;
            firstFeed[gate] = NONE;
            feedsOf[gate] = 0;
            gates = gate + 1;
            settled = false;
            if (sort == INPUT) {
                fixInput(gate, inputs);
                inputs = inputs + 1;
            }
            return gate;
        }

        private void fixInput(int gate, int input) {
            for (int word = 0; word < WORDS; word++) {
                long ones = 0L;
                for (int bit = 0; bit < WORD_BITS; bit++) {
                    if (isInputSet(input, word * WORD_BITS + bit)) {
                        ones |= 1L << bit;
                    }
                }
                high[gate][word] = ones;
                low[gate][word] = ~ones;
            }
        }

        int addFeed(int to, int from, boolean negated) {
            if (feeds >= MAX_FEEDS) {
                return NONE;
            }
            int feed = feeds;
            feedFrom[feed] = from;
            feedNegated[feed] = negated;
            nextFeed[feed] = firstFeed[to];
            firstFeed[to] = feed;
            feedsOf[to] = feedsOf[to] + 1;
            feeds = feed + 1;
            settled = false;
            return feedsOf[to];
        }

        long[] highOf(int gate) {
            settle();
            return high[gate];
        }

        long[] lowOf(int gate) {
            settle();
            return low[gate];
        }

        int valueOn(int gate, int choice) {
            settle();
            if (isMember(high[gate], choice)) {
                return 1;
            }
            return isMember(low[gate], choice) ? 0 : UNKNOWN;
        }

        private void settle() {
            if (settled) {
                return;
            }
            for (int word = 0; word < WORDS; word++) {
                forgetWord(word);
                settleWord(word);
            }
            settled = true;
        }

        private void forgetWord(int word) {
            for (int gate = 0; gate < gates; gate++) {
                if (!isInput(gate)) {
                    high[gate][word] = 0L;
                    low[gate][word] = 0L;
                }
            }
        }

        // On a choice that has not settled, each round makes one more gate known at least:
        // so as many rounds as there are gates are enough, and one more that sees no change.
        private void settleWord(int word) {
            boolean changed = true;
            for (int round = 0; changed && round <= gates; round++) {
                changed = false;
                for (int gate = 0; gate < gates; gate++) {
                    if (!isInput(gate) && settleGate(gate, word)) {
                        changed = true;
                    }
                }
            }
        }

        // An or is worked out as the and of its feeds turned round, itself turned round.
        private boolean settleGate(int gate, int word) {
            boolean turned = sorts[gate] == OR;
            long all = -1L;
            long any = 0L;
            int feed = firstFeed[gate];
            for (int n = 0; n < feeds && feed != NONE; n++) {
                int from = feedFrom[feed];
                boolean swapped = feedNegated[feed] != turned;
                all &= swapped ? low[from][word] : high[from][word];
                any |= swapped ? high[from][word] : low[from][word];
                feed = nextFeed[feed];
            }
            long ones = turned ? any : all;
            long zeros = turned ? all : any;
            boolean changed = ones != high[gate][word] || zeros != low[gate][word];
            high[gate][word] = ones;
            low[gate][word] = zeros;
            return changed;
        }
    }

    /** The outputs as they were when they were laid out, each with its two functions. */
    private static final class Layout {
        private final Multiplexers multiplexers = new Multiplexers();
        private final int[] highRoots = new int[MAX_OUTPUTS];
        private final int[] lowRoots = new int[MAX_OUTPUTS];
        private final long[][] knownSets = new long[MAX_OUTPUTS][WORDS];
        private int outputs = 0;

        void dropAll() {
            multiplexers.dropAll();
            outputs = 0;
        }

        void addOutput(long[] high, long[] low) {
            if (outputs >= MAX_OUTPUTS) {
                return;
            }
            highRoots[outputs] = multiplexers.addFunction(high);
            lowRoots[outputs] = multiplexers.addFunction(low);
            for (int word = 0; word < WORDS; word++) {
                knownSets[outputs][word] = high[word] | low[word];
            }
            outputs = outputs + 1;
        }

        int valueOn(int output, int choice) {
            if (multiplexers.isOneOn(highRoots[output], choice)) {
                return 1;
            }
            return multiplexers.isOneOn(lowRoots[output], choice) ? 0 : UNKNOWN;
        }

        int stepsOn(int output, int choice) {
            return multiplexers.stepsOn(highRoots[output], choice)
                    + multiplexers.stepsOn(lowRoots[output], choice);
        }

        int knownChoices(int output) {
            int sum = 0;
            for (int word = 0; word < WORDS; word++) {
                sum += Long.bitCount(knownSets[output][word]);
            }
            return sum;
        }

        int firstDoubtFrom(int least) {
            for (int choice = least; choice < CHOICES; choice++) {
                for (int output = 0; output < outputs; output++) {
                    if (!isMember(knownSets[output], choice)) {
                        return choice;
                    }
                }
            }
            return NONE;
        }
    }

    /**
     * The multiplexers of all functions, each function's once. They are numbered from 2 on, as
     * nodes 0 and 1 are the constants; a multiplexer's number is above those of what it takes.
     */
    private static final class Multiplexers {
        private static final int CONSTANTS = 2;
        // At input k there are at most 20 * 2^k (10 outputs with two functions each), and at most
        // as many as there are functions of the inputs k .. 7 that depend on k: for k = 0 .. 7,
        // 20 + 40 + 80 + 160 + 320 + 240 + 12 + 2.
        private static final int MAX_NODES = CONSTANTS + 874;

        private final int[] inputOf = new int[MAX_NODES];
        private final int[] ifZero = new int[MAX_NODES];
        private final int[] ifOne = new int[MAX_NODES];
        private final int[] depthOf = new int[MAX_NODES];
        // The multiplexers that take a node if their input is 0 stand in a chain, to be found by.
        private final int[] firstTaker = new int[MAX_NODES];
        private final int[] nextTaker = new int[MAX_NODES];
        private final boolean[] reached = new boolean[MAX_NODES];
        private final int[] row = new int[CHOICES];
        private final int[] perInput = new int[MAX_INPUTS];
        private int nodes = CONSTANTS;
        private int longest = 0;

        void dropAll() {
            nodes = CONSTANTS;
            longest = 0;
            for (int node = 0; node < CONSTANTS; node++) {
                depthOf[node] = 0;
                firstTaker[node] = NONE;
            }
            for (int input = 0; input < MAX_INPUTS; input++) {
                perInput[input] = 0;
            }
        }

        int total() {
            return nodes - CONSTANTS;
        }

        // The row begins as the function's values on all choices; each input, from the last to
        // the first, halves it by joining neighbours, which differ in that input alone.
        int addFunction(long[] ones) {
            for (int choice = 0; choice < CHOICES; choice++) {
                row[choice] = isMember(ones, choice) ? 1 : 0;
            }
            for (int input = MAX_INPUTS - 1; input >= 0; input--) {
                int width = 1 << input;
                for (int i = 0; i < width; i++) {
                    row[i] = join(input, row[2 * i], row[2 * i + 1]);
                }
            }
            return row[0];
        }

        private int join(int input, int zero, int one) {
            if (zero == one) {
                return zero;
            }
            int taker = firstTaker[zero];
            for (int n = 0; n < nodes && taker != NONE; n++) {
                if (inputOf[taker] == input && ifOne[taker] == one) {
                    return taker;
                }
                taker = nextTaker[taker];
            }
            return addMultiplexer(input, zero, one);
        }

        private int addMultiplexer(int input, int zero, int one) {
            if (nodes >= MAX_NODES) {
                return zero; // never comes, see MAX_NODES
            }
            int node = nodes;
            inputOf[node] = input;
            ifZero[node] = zero;
            ifOne[node] = one;
            depthOf[node] = 1 + Math.max(depthOf[zero], depthOf[one]);
            nextTaker[node] = firstTaker[zero];
            firstTaker[zero] = node;
            firstTaker[node] = NONE;
            perInput[input] = perInput[input] + 1;
            longest = Math.max(longest, depthOf[node]);
            nodes = node + 1;
            return node;
        }

        private int follow(int node, int choice) {
            return isInputSet(inputOf[node], choice) ? ifOne[node] : ifZero[node];
        }

        boolean isOneOn(int root, int choice) {
            int node = root;
            for (int n = 0; n < MAX_INPUTS && node >= CONSTANTS; n++) {
                node = follow(node, choice);
            }
            return node == 1;
        }

        int stepsOn(int root, int choice) {
            int node = root;
            int steps = 0;
            while (steps < MAX_INPUTS && node >= CONSTANTS) {
                node = follow(node, choice);
                steps++;
            }
            return steps;
        }

        // What a multiplexer takes has a lower number: going downwards, all that reach a node
        // have been passed before it.
        int totalBelow(int root) {
            for (int node = 0; node <= root; node++) {
                reached[node] = false;
            }
            reached[root] = true;
            int sum = 0;
            for (int node = root; node >= CONSTANTS; node--) {
                if (reached[node]) {
                    sum++;
                    reached[ifZero[node]] = true;
                    reached[ifOne[node]] = true;
                }
            }
            return sum;
        }
    }
}
