/**
 * The boundary cases of promises 6 to 12 and 14 and of the terms that they use: above each test
 * stands the sentence of the document that it is about, and it looks at both sides of the boundary.
 */
public final class LayoutBoundaryTest {
    private static final Class<IndexOutOfBoundsException> OUT = IndexOutOfBoundsException.class;
    private static final int[] NO_CHOICES = {-1, 256, 257, 384, 511, -255, -256, 65536,
        Integer.MIN_VALUE, Integer.MIN_VALUE + 128, Integer.MAX_VALUE};

    public static void main(String[] args) {
        layOfNoOutputs();
        layOf10Outputs();
        layTakesThePlace();
        nothingIsLaidOutBeforeLay();
        outputsOfThenAlone();
        runAndWayOnTheFirstAndTheLastChoice();
        runAndWayOfTheFirstAndTheLastOutput();
        wayFromNoneTo16();
        wayOfOneFunctionAlone();
        atFromInput0To7();
        atWithoutSuchAnInput();
        sizeFrom0To8();
        sizeAndKnownOfTheFirstAndTheLastOutput();
        knownFrom0To256();
        doubtNotBelowAChoice();
        doubtWithoutOne();
        doubtOfSomeOutput();
        doubtRefusesOtherChoices();
        aConstantHasNoMultiplexer();
        aMultiplexerStandsAtTheFirstInput();
        aFunctionHasItsMultiplexerOnce();
        countFrom0To6();
        theLongestRow();
        Check.end();
    }

    private static void dueRefused(CycleCutter x, String call, Check.Call made) {
        String before = Nets.countsOf(x);
        Check.dueThrow(call, OUT, made);
        Check.due("counts after " + call, before, Nets.countsOf(x));
    }

    /** Unknown on the last choice alone, else 0. */
    private static int unknownOnTheLast(CycleCutter x) {
        int gate = Nets.gateOfFirst(x, Nets.AND, 8);
        x.feed(gate, gate, false);
        return gate;
    }

    /** Unknown on the first choice alone, else 1. */
    private static int unknownOnTheFirst(CycleCutter x) {
        int gate = Nets.gateOfFirst(x, Nets.OR, 8);
        x.feed(gate, gate, false);
        return gate;
    }

    /** Known, as 1, on the last choice alone. */
    private static int knownOnTheLast(CycleCutter x) {
        int all = Nets.gateOfFirst(x, Nets.AND, 8);
        return Nets.gateOf(x, Nets.OR, all, false, Nets.unknownOf(x), false);
    }

    // Promise 6: "how many they have together", with no outputs and with the first
    private static void layOfNoOutputs() {
        CycleCutter x = new CycleCutter();
        Check.due("lay() of nothing", 0, x.lay());
        Check.due("counts", "0 0 0 0 0 0 0", Nets.countsOf(x));
        x.gate(Nets.INPUT);
        Check.due("lay() without outputs", 0, x.lay());
        Check.due("counts", "1 0 1 0 0 0 0", Nets.countsOf(x));
        Check.dueThrow("run(0, 0) without outputs", OUT, () -> x.run(0, 0));
        x.output(0);
        Check.due("lay() of one output", 2, x.lay());
        Check.due("counts", "1 0 1 1 1 2 1", Nets.countsOf(x));
    }

    // Promise 6: "All outputs are laid out"
    private static void layOf10Outputs() {
        CycleCutter x = Nets.withInputs(8);
        int xor = Nets.xorOf(x, 0, 7);
        int and = Nets.gateOf(x, Nets.AND, 0, false, 7, false);
        for (int k = 0; k < 8; k++) {
            x.output(k);
        }
        x.output(xor);
        Check.due("lay() of 9", 18, x.lay());
        x.output(and);
        Check.due("lay() of 10", 20, x.lay());
        Check.due("counts", "12 8 8 10 10 20 2", Nets.countsOf(x));
        for (int k = 0; k < 8; k++) {
            Check.due("run(" + k + ") on its bit", 1, x.run(k, 128 >> k));
            Check.due("run(" + k + ") on all others", 0, x.run(k, 255 - (128 >> k)));
        }
        Check.due("run of the 9th", 1, x.run(8, 1));
        Check.due("run of the 9th", 0, x.run(8, 129));
        Check.due("run of the 10th", 1, x.run(9, 129));
        Check.due("run of the 10th", 0, x.run(9, 1));
        Check.due("size of the 10th", 2, x.size(9, true));
        Check.due("known of the 10th", 256, x.known(9));
        Check.due("way of the 10th on 0", 2, x.way(9, 127));
        Check.due("way of the 10th on 1", 4, x.way(9, 128));
    }

    // Promise 6: "in place of what was laid out before"
    private static void layTakesThePlace() {
        CycleCutter x = Nets.withInputs(8);
        int all = Nets.gateOfFirst(x, Nets.AND, 8);
        x.output(all);
        Check.due("lay()", 16, x.lay());
        Check.due("lay() again", 16, x.lay());
        Check.due("counts", "9 8 8 1 1 16 8", Nets.countsOf(x));
        x.feed(all, x.gate(Nets.OR), false);
        Check.due("run before the next lay", 1, x.run(0, 255));
        Check.due("lay() of a constant in its place", 0, x.lay());
        Check.due("counts", "10 9 8 1 1 0 0", Nets.countsOf(x));
        Check.due("run in its place", 0, x.run(0, 255));
        Check.due("way in its place", 0, x.way(0, 255));
        for (int k = 0; k < 8; k++) {
            Check.due("at(" + k + ") in its place", 0, x.at(k));
        }
        x.clear();
        Check.due("lay() of nothing in its place", 0, x.lay());
        Check.dueThrow("run(0, 0) of nothing", OUT, () -> x.run(0, 0));
    }

    // Promises 7, 8, 10 and 11: "when there was no such output then", "when it was not laid out"
    private static void nothingIsLaidOutBeforeLay() {
        CycleCutter x = Nets.withInputs(1);
        x.output(0);
        dueRefused(x, "run(0, 0) before lay", () -> x.run(0, 0));
        dueRefused(x, "way(0, 0) before lay", () -> x.way(0, 0));
        dueRefused(x, "size(0, true) before lay", () -> x.size(0, true));
        dueRefused(x, "size(0, false) before lay", () -> x.size(0, false));
        dueRefused(x, "known(0) before lay", () -> x.known(0));
        Check.due("doubt(0) before lay", -1, x.doubt(0));
        Check.due("at(0) before lay", 0, x.at(0));
        x.lay();
        Check.due("run(0, 0) after lay", 0, x.run(0, 0));
        Check.due("way(0, 0) after lay", 2, x.way(0, 0));
        Check.due("size(0, true) after lay", 1, x.size(0, true));
        Check.due("size(0, false) after lay", 1, x.size(0, false));
        Check.due("known(0) after lay", 256, x.known(0));
        Check.due("at(0) after lay", 2, x.at(0));
    }

    // Promise 7: "no such output then": what has been named since then does not count
    private static void outputsOfThenAlone() {
        CycleCutter x = Nets.withInputs(2);
        x.output(0);
        x.lay();
        int unknown = Nets.unknownOf(x);
        Check.due("a second output", 1, x.output(unknown));
        Check.due("outputs", 2, x.count(3));
        Check.due("outputs laid out", 1, x.count(4));
        dueRefused(x, "run(1, 0) named since", () -> x.run(1, 0));
        dueRefused(x, "way(1, 0) named since", () -> x.way(1, 0));
        dueRefused(x, "size(1, true) named since", () -> x.size(1, true));
        dueRefused(x, "known(1) named since", () -> x.known(1));
        Check.due("doubt(0) looks at those of then", -1, x.doubt(0));
        Check.due("run(0, 128) of then", 1, x.run(0, 128));
        x.lay();
        Check.due("run(1, 0) now", 2, x.run(1, 0));
        Check.due("way(1, 0) now", 0, x.way(1, 0));
        Check.due("size(1, true) now", 0, x.size(1, true));
        Check.due("known(1) now", 0, x.known(1));
        Check.due("doubt(0) now", 0, x.doubt(0));
        dueRefused(x, "run(2, 0) now", () -> x.run(2, 0));
    }

    // Promises 7 and 8: "or choice is not 0 .. 255", "Throws as run."
    private static void runAndWayOnTheFirstAndTheLastChoice() {
        CycleCutter x = Nets.withInputs(8);
        x.output(Nets.gateOfFirst(x, Nets.AND, 8));
        x.output(Nets.gateOfFirst(x, Nets.OR, 8));
        x.lay();
        for (int choice : NO_CHOICES) {
            Check.dueThrow("run(0, " + choice + ")", OUT, () -> x.run(0, choice));
            Check.dueThrow("way(0, " + choice + ")", OUT, () -> x.way(0, choice));
            Check.dueThrow("run(2, " + choice + ")", OUT, () -> x.run(2, choice));
            Check.dueThrow("way(2, " + choice + ")", OUT, () -> x.way(2, choice));
        }
        Check.due("run of and on 255", 1, x.run(0, 255));
        Check.due("run of and on 254", 0, x.run(0, 254));
        Check.due("run of or on 0", 0, x.run(1, 0));
        Check.due("run of or on 1", 1, x.run(1, 1));
        Check.due("way of and on 255", 16, x.way(0, 255));
        Check.due("way of and on 0", 2, x.way(0, 0));
        Check.due("way of or on 0", 16, x.way(1, 0));
        Check.due("way of or on 255", 2, x.way(1, 255));
    }

    // Promises 7 and 8: "when there was no such output then"
    private static void runAndWayOfTheFirstAndTheLastOutput() {
        CycleCutter x = Nets.withInputs(8);
        for (int i = 0; i < 10; i++) {
            x.output(i % 8);
            x.lay();
            int next = i + 1;
            Check.due("run(" + i + ", 255)", 1, x.run(i, 255));
            Check.due("way(" + i + ", 255)", 2, x.way(i, 255));
            Check.dueThrow("run(" + next + ", 255)", OUT, () -> x.run(next, 255));
            Check.dueThrow("way(" + next + ", 255)", OUT, () -> x.way(next, 255));
            Check.due("run(0, 0)", 0, x.run(0, 0));
        }
        for (int output : new int[] {-1, 11, 256, -256, Integer.MIN_VALUE, Integer.MAX_VALUE}) {
            Check.dueThrow("run(" + output + ", 0)", OUT, () -> x.run(output, 0));
            Check.dueThrow("way(" + output + ", 0)", OUT, () -> x.way(output, 0));
        }
    }

    // Promise 8: "for both of its functions together": as few as none and as many as 16
    private static void wayFromNoneTo16() {
        CycleCutter x = Nets.withInputs(8);
        x.output(x.gate(Nets.AND));
        x.output(x.gate(Nets.OR));
        x.output(7);
        x.output(Nets.gateOfFirst(x, Nets.AND, 8));
        x.lay();
        Check.due("way of 1", 0, x.way(0, 0));
        Check.due("way of 0", 0, x.way(1, 255));
        Check.due("way of input 7 on 254", 2, x.way(2, 254));
        Check.due("way of input 7 on 255", 2, x.way(2, 255));
        for (int k = 0; k < 8; k++) {
            int choice = 255 - (128 >> k);
            Check.due("way of and on " + choice, 2 * (k + 1), x.way(3, choice));
        }
        Check.due("way of and on 255", 16, x.way(3, 255));
    }

    // Promise 8: the same where one of both functions is a constant
    private static void wayOfOneFunctionAlone() {
        CycleCutter x = Nets.withInputs(8);
        x.output(unknownOnTheLast(x));
        x.output(unknownOnTheFirst(x));
        x.output(Nets.unknownOf(x));
        x.lay();
        Check.due("LOW alone on 255", 8, x.way(0, 255));
        Check.due("LOW alone on 127", 1, x.way(0, 127));
        Check.due("HIGH alone on 0", 8, x.way(1, 0));
        Check.due("HIGH alone on 128", 1, x.way(1, 128));
        Check.due("unknown", 0, x.way(2, 0));
    }

    // Promise 9: "How many multiplexers at input k"
    private static void atFromInput0To7() {
        for (int k = 0; k < 8; k++) {
            CycleCutter x = Nets.withInputs(8);
            x.output(k);
            Check.due("lay() of input " + k, 2, x.lay());
            for (int other = -1; other <= 8; other++) {
                Check.due("at(" + other + ") of input " + k, other == k ? 2 : 0, x.at(other));
            }
        }
    }

    // Promise 9: "0 without any such input."
    private static void atWithoutSuchAnInput() {
        CycleCutter x = Nets.withInputs(7);
        x.output(Nets.gateOfFirst(x, Nets.AND, 7));
        x.lay();
        Check.due("at(6) of 7", 2, x.at(6));
        Check.due("at(7) of 7", 0, x.at(7));
        for (int k : new int[] {-1, -2, -8, 8, 9, 16, 255, 256, -256, Integer.MIN_VALUE,
            Integer.MIN_VALUE + 7, Integer.MAX_VALUE}) {
            Check.due("at(" + k + ")", 0, x.at(k));
        }
        x.feed(7, x.gate(Nets.INPUT), false);
        Check.due("at(7), there but not laid out", 0, x.at(7));
        x.lay();
        Check.due("at(7) of 8", 2, x.at(7));
        Check.due("at(8) of 8", 0, x.at(8));
        Check.due("at(-1) of 8", 0, x.at(-1));
    }

    // Promise 10: "for its HIGH, or for its LOW"
    private static void sizeFrom0To8() {
        CycleCutter x = Nets.withInputs(8);
        x.output(x.gate(Nets.AND));
        x.output(7);
        x.output(unknownOnTheLast(x));
        x.output(unknownOnTheFirst(x));
        x.output(Nets.gateOfFirst(x, Nets.AND, 8));
        x.lay();
        int[][] want = {{0, 0}, {1, 1}, {0, 8}, {8, 0}, {8, 8}};
        for (int output = 0; output < want.length; output++) {
            Check.due("size of HIGH " + output, want[output][0], x.size(output, true));
            Check.due("size of LOW " + output, want[output][1], x.size(output, false));
        }
    }

    // Promises 10 and 11: "IndexOutOfBoundsException when it was not laid out."
    private static void sizeAndKnownOfTheFirstAndTheLastOutput() {
        CycleCutter x = Nets.withInputs(8);
        for (int i = 0; i < 10; i++) {
            x.output(i % 8);
            x.lay();
            int next = i + 1;
            Check.due("size(" + i + ", true)", 1, x.size(i, true));
            Check.due("size(" + i + ", false)", 1, x.size(i, false));
            Check.due("known(" + i + ")", 256, x.known(i));
            Check.dueThrow("size(" + next + ", true)", OUT, () -> x.size(next, true));
            Check.dueThrow("size(" + next + ", false)", OUT, () -> x.size(next, false));
            Check.dueThrow("known(" + next + ")", OUT, () -> x.known(next));
        }
        for (int output : new int[] {-1, 11, 256, -256, Integer.MIN_VALUE, Integer.MAX_VALUE}) {
            Check.dueThrow("size(" + output + ", true)", OUT, () -> x.size(output, true));
            Check.dueThrow("size(" + output + ", false)", OUT, () -> x.size(output, false));
            Check.dueThrow("known(" + output + ")", OUT, () -> x.known(output));
        }
    }

    // Promise 11: "On how many of the 256 choices an output is known."
    private static void knownFrom0To256() {
        CycleCutter x = Nets.withInputs(8);
        x.output(Nets.unknownOf(x));
        x.output(knownOnTheLast(x));
        x.output(unknownOnTheLast(x));
        x.output(unknownOnTheFirst(x));
        x.output(x.gate(Nets.AND));
        x.output(x.gate(Nets.OR));
        x.output(7);
        x.lay();
        int[] want = {0, 1, 255, 255, 256, 256, 256};
        for (int output = 0; output < want.length; output++) {
            Check.due("known(" + output + ")", want[output], x.known(output));
        }
    }

    // Promise 12: "The least choice, not below another one"
    private static void doubtNotBelowAChoice() {
        CycleCutter first = Nets.withInputs(8);
        first.output(unknownOnTheFirst(first));
        first.lay();
        Check.due("unknown on 0 alone, doubt(0)", 0, first.doubt(0));
        Check.due("unknown on 0 alone, doubt(1)", -1, first.doubt(1));
        Check.due("unknown on 0 alone, doubt(255)", -1, first.doubt(255));
        CycleCutter last = Nets.withInputs(8);
        last.output(unknownOnTheLast(last));
        last.lay();
        Check.due("unknown on 255 alone, doubt(0)", 255, last.doubt(0));
        Check.due("unknown on 255 alone, doubt(254)", 255, last.doubt(254));
        Check.due("unknown on 255 alone, doubt(255)", 255, last.doubt(255));
        CycleCutter most = Nets.withInputs(8);
        most.output(knownOnTheLast(most));
        most.lay();
        for (int choice = 0; choice < 255; choice++) {
            Check.due("known on 255 alone, doubt(" + choice + ")", choice, most.doubt(choice));
        }
        Check.due("known on 255 alone, doubt(255)", -1, most.doubt(255));
    }

    // Promise 12: "NONE without one."
    private static void doubtWithoutOne() {
        CycleCutter x = Nets.withInputs(1);
        int unknown = Nets.unknownOf(x);
        Check.due("doubt(0) without outputs", -1, x.doubt(0));
        x.output(0);
        Check.due("doubt(0) before lay", -1, x.doubt(0));
        x.lay();
        Check.due("doubt(0), all known", -1, x.doubt(0));
        Check.due("doubt(255), all known", -1, x.doubt(255));
        x.output(unknown);
        Check.due("doubt(255) before it is laid out", -1, x.doubt(255));
        x.lay();
        Check.due("doubt(0), one unknown", 0, x.doubt(0));
        Check.due("doubt(255), one unknown", 255, x.doubt(255));
        x.clear();
        Check.due("doubt(0) cleared", -1, x.doubt(0));
        x.lay();
        Check.due("doubt(0) of nothing", -1, x.doubt(0));
    }

    // Promise 12: "on which some output that is laid out is unknown": be it the first or the 10th
    private static void doubtOfSomeOutput() {
        for (int odd = 0; odd < 10; odd++) {
            CycleCutter x = Nets.withInputs(8);
            int gate = unknownOnTheLast(x);
            for (int i = 0; i < 10; i++) {
                x.output(i == odd ? gate : i % 8);
            }
            x.lay();
            Check.due("doubt(0) of output " + odd, 255, x.doubt(0));
        }
        CycleCutter both = Nets.withInputs(8);
        both.output(unknownOnTheLast(both));
        both.output(unknownOnTheFirst(both));
        both.lay();
        Check.due("doubt(0) of both", 0, both.doubt(0));
        Check.due("doubt(1) of both", 255, both.doubt(1));
    }

    // Promise 12: "IndexOutOfBoundsException when choice is not 0 .. 255."
    private static void doubtRefusesOtherChoices() {
        CycleCutter x = Nets.withInputs(1);
        for (int choice : NO_CHOICES) {
            Check.dueThrow("doubt(" + choice + ") of nothing", OUT, () -> x.doubt(choice));
        }
        x.output(Nets.unknownOf(x));
        x.lay();
        for (int choice : NO_CHOICES) {
            Check.dueThrow("doubt(" + choice + ")", OUT, () -> x.doubt(choice));
        }
        Check.due("doubt(0)", 0, x.doubt(0));
        Check.due("doubt(255)", 255, x.doubt(255));
    }

    // Terms: "A function that is not the same for all choices has one multiplexer"
    private static void aConstantHasNoMultiplexer() {
        CycleCutter x = Nets.withInputs(8);
        x.output(x.gate(Nets.AND));
        x.output(x.gate(Nets.OR));
        x.output(Nets.unknownOf(x));
        x.output(Nets.gateOf(x, Nets.AND, 0, false, 0, true));
        x.output(Nets.gateOf(x, Nets.OR, 7, false, 7, true));
        Check.due("lay() of constants", 0, x.lay());
        Check.due("longest row of constants", 0, x.count(6));
        x.output(unknownOnTheLast(x));
        Check.due("lay() with a function of one choice that differs", 8, x.lay());
        x.output(unknownOnTheFirst(x));
        Check.due("lay() with another one", 16, x.lay());
    }

    // Terms: "at the first input k on which it depends (.. on some choice)"
    private static void aMultiplexerStandsAtTheFirstInput() {
        CycleCutter x = Nets.withInputs(8);
        x.output(Nets.gateOfFirst(x, Nets.AND, 8));
        x.lay();
        for (int k = 0; k < 8; k++) {
            Check.due("and of 8, at(" + k + ")", 2, x.at(k));
        }
        CycleCutter y = Nets.withInputs(8);
        y.output(Nets.xorOf(y, 3, 6));
        Check.due("lay() of two inputs", 4, y.lay());
        for (int k = 0; k < 8; k++) {
            Check.due("xor of 3 and 6, at(" + k + ")", k == 3 || k == 6 ? 2 : 0, y.at(k));
        }
        CycleCutter z = Nets.withInputs(8);
        int same = Nets.gateOf(z, Nets.OR, 0, false, 0, true);
        z.output(Nets.gateOf(z, Nets.AND, same, false, 7, false));
        Check.due("lay() of an input that is passed by", 2, z.lay());
        Check.due("at(0), fed but not depended on", 0, z.at(0));
        Check.due("at(7), depended on", 2, z.at(7));
    }

    // Terms: "A function has its multiplexer once, however often it comes up."
    private static void aFunctionHasItsMultiplexerOnce() {
        CycleCutter x = Nets.withInputs(2);
        int xor = Nets.xorOf(x, 0, 1);
        int not = x.gate(Nets.AND);
        x.feed(not, 1, true);
        x.output(1);
        Check.due("an input", 2, x.lay());
        x.output(1);
        Check.due("the same gate", 2, x.lay());
        x.output(not);
        Check.due("its negation, HIGH and LOW swapped", 2, x.lay());
        x.output(xor);
        Check.due("what takes both", 4, x.lay());
        Check.due("at(0)", 2, x.at(0));
        Check.due("at(1)", 2, x.at(1));
        Check.due("size of HIGH, each once", 3, x.size(3, true));
        Check.due("size of LOW, each once", 3, x.size(3, false));
        Check.due("multiplexers", 4, x.count(5));
        x.output(0);
        Check.due("another function", 6, x.lay());
    }

    // Promise 14: "NONE for others."
    private static void countFrom0To6() {
        CycleCutter x = Nets.withInputs(3);
        int xor = Nets.xorOf(x, 0, 2);
        x.output(xor);
        x.output(1);
        x.lay();
        x.output(0);
        Check.due("counts", "6 6 3 3 2 6 2", Nets.countsOf(x));
        for (int what : new int[] {-1, 7, 8, -2, 256, 262, -256, 65536, Integer.MIN_VALUE,
            Integer.MIN_VALUE + 6, Integer.MAX_VALUE}) {
            Check.due("count(" + what + ")", -1, x.count(what));
        }
    }

    // Promise 14: "6 the longest row of multiplexers one behind the other"
    private static void theLongestRow() {
        CycleCutter x = Nets.withInputs(8);
        x.output(x.gate(Nets.AND));
        x.lay();
        Check.due("of a constant", 0, x.count(6));
        x.output(7);
        x.lay();
        Check.due("of an input", 1, x.count(6));
        x.output(0);
        x.lay();
        Check.due("of two inputs beside one another", 1, x.count(6));
        x.output(Nets.gateOf(x, Nets.AND, 0, false, 7, false));
        x.lay();
        Check.due("of an and of both", 2, x.count(6));
        x.output(Nets.gateOfFirst(x, Nets.OR, 8));
        x.lay();
        Check.due("of all inputs", 8, x.count(6));
        x.output(3);
        x.lay();
        Check.due("a shorter one behind it", 8, x.count(6));
    }
}
