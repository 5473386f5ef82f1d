/** Promises 1 to 5, 13 and 14: the net as it is built, and the values in it. */
public final class NetTest {
    private static final Class<IndexOutOfBoundsException> OUT = IndexOutOfBoundsException.class;
    private static final Class<IllegalStateException> STATE = IllegalStateException.class;
    private static final Class<IllegalArgumentException> ARGUMENT = IllegalArgumentException.class;

    public static void main(String[] args) {
        aNewObjectIsEmpty();
        gatesAreNumbered();
        gateRefusesOtherSorts();
        gateStopsAt120();
        gateStopsAt8Inputs();
        feedCountsTheFeedsOfItsGate();
        feedRefusesWrongGates();
        feedStopsAt500();
        outputsAreNumbered();
        outputStopsAt10();
        clearDropsAll();
        valueOfInputs();
        valueOfAndAndOr();
        valueWithoutFeeds();
        valueOnCycles();
        valueFollowsTheNet();
        valueAgainstTheOrderOfGates();
        valueRefusesWrongArguments();
        countCounts();
        Check.end();
    }

    private static void aNewObjectIsEmpty() {
        CycleCutter x = new CycleCutter();
        Check.due("NONE", -1, CycleCutter.NONE);
        for (int what = 0; what <= 6; what++) {
            Check.due("new count(" + what + ")", 0, x.count(what));
        }
        for (int k = 0; k < 8; k++) {
            Check.due("new at(" + k + ")", 0, x.at(k));
        }
        Check.due("new doubt(0)", -1, x.doubt(0));
        Check.due("new doubt(255)", -1, x.doubt(255));
        Check.dueThrow("new run(0, 0)", OUT, () -> x.run(0, 0));
        Check.dueThrow("new way(0, 0)", OUT, () -> x.way(0, 0));
        Check.dueThrow("new known(0)", OUT, () -> x.known(0));
        Check.dueThrow("new size(0, true)", OUT, () -> x.size(0, true));
        Check.dueThrow("new value(0, 0)", OUT, () -> x.value(0, 0));
        Check.dueThrow("new output(0)", OUT, () -> x.output(0));
        Check.dueThrow("new feed(0, 0, false)", OUT, () -> x.feed(0, 0, false));
        Check.due("new clear()", 0, x.clear());
        Check.due("new lay()", 0, x.lay());
    }

    private static void gatesAreNumbered() {
        CycleCutter x = new CycleCutter();
        Check.due("gate(3)", 0, x.gate(3));
        Check.due("gate(0)", 1, x.gate(0));
        Check.due("gate(2)", 2, x.gate(2));
        Check.due("gates", 3, x.count(0));
        Check.due("inputs", 1, x.count(2));
    }

    private static void gateRefusesOtherSorts() {
        CycleCutter x = new CycleCutter();
        int[] wrong = {1, 4, -1, 5, Integer.MIN_VALUE, Integer.MAX_VALUE};
        for (int sort : wrong) {
            Check.dueThrow("gate(" + sort + ")", ARGUMENT, () -> x.gate(sort));
        }
        Check.due("gates after refusals", 0, x.count(0));
    }

    private static void gateStopsAt120() {
        CycleCutter x = new CycleCutter();
        for (int i = 0; i < 120; i++) {
            Check.due("gate " + i, i, x.gate(i % 2 == 0 ? 2 : 3));
        }
        Check.due("gate(2) with 120", -1, x.gate(2));
        Check.due("gate(3) with 120", -1, x.gate(3));
        Check.due("gate(0) with 120", -1, x.gate(0));
        Check.dueThrow("gate(1) with 120", ARGUMENT, () -> x.gate(1));
        Check.due("gates", 120, x.count(0));
        Check.due("inputs", 0, x.count(2));
        Check.due("feed of the last gate", 1, x.feed(119, 118, false));
        Check.due("output of the last gate", 0, x.output(119));
        Check.due("value of the last gate", 1, x.value(119, 0));
    }

    private static void gateStopsAt8Inputs() {
        CycleCutter x = new CycleCutter();
        for (int i = 0; i < 8; i++) {
            Check.due("input " + i, i, x.gate(0));
        }
        Check.due("a ninth input", -1, x.gate(0));
        Check.due("inputs", 8, x.count(2));
        Check.due("gates", 8, x.count(0));
        Check.due("an and behind 8 inputs", 8, x.gate(2));
        Check.due("a ninth input again", -1, x.gate(0));
    }

    private static void feedCountsTheFeedsOfItsGate() {
        CycleCutter x = new CycleCutter();
        x.gate(0);
        x.gate(2);
        x.gate(3);
        Check.due("feed(1, 0)", 1, x.feed(1, 0, false));
        Check.due("feed(1, 0) again", 2, x.feed(1, 0, false));
        Check.due("feed(2, 1)", 1, x.feed(2, 1, true));
        Check.due("feed(1, 1) of itself", 3, x.feed(1, 1, true));
        Check.due("feeds", 4, x.count(1));
    }

    private static void feedRefusesWrongGates() {
        CycleCutter x = new CycleCutter();
        x.gate(0);
        x.gate(2);
        Check.dueThrow("feed(2, 0)", OUT, () -> x.feed(2, 0, false));
        Check.dueThrow("feed(1, 2)", OUT, () -> x.feed(1, 2, false));
        Check.dueThrow("feed(-1, 0)", OUT, () -> x.feed(-1, 0, false));
        Check.dueThrow("feed(1, -1)", OUT, () -> x.feed(1, -1, true));
        Check.dueThrow("feed(120, 0)", OUT, () -> x.feed(120, 0, true));
        Check.dueThrow("feed(0, 2): not there comes first", OUT, () -> x.feed(0, 2, false));
        Check.dueThrow("feed(0, 1)", STATE, () -> x.feed(0, 1, false));
        Check.dueThrow("feed(0, 0)", STATE, () -> x.feed(0, 0, false));
        Check.due("feeds after refusals", 0, x.count(1));
        Check.due("the first feed", 1, x.feed(1, 0, false));
    }

    private static void feedStopsAt500() {
        CycleCutter x = new CycleCutter();
        x.gate(0);
        x.gate(2);
        x.gate(3);
        for (int i = 1; i <= 499; i++) {
            Check.due("feed " + i, i, x.feed(1, 0, false));
        }
        Check.due("feed 500", 1, x.feed(2, 0, true));
        Check.due("feed 501", -1, x.feed(1, 0, true));
        Check.due("feed 501 of another", -1, x.feed(2, 0, false));
        Check.due("feeds", 500, x.count(1));
        Check.dueThrow("feed(0, 1) with 500", STATE, () -> x.feed(0, 1, false));
        Check.dueThrow("feed(3, 1) with 500", OUT, () -> x.feed(3, 1, false));
        Check.due("what was refused feeds nothing", 1, x.value(1, 128));
        Check.due("the last feed feeds", 0, x.value(2, 128));
    }

    private static void outputsAreNumbered() {
        CycleCutter x = new CycleCutter();
        x.gate(0);
        x.gate(2);
        Check.due("output(1)", 0, x.output(1));
        Check.due("output(0), an input", 1, x.output(0));
        Check.due("output(1) again", 2, x.output(1));
        Check.due("outputs", 3, x.count(3));
        Check.due("outputs laid out", 0, x.count(4));
        Check.dueThrow("output(2)", OUT, () -> x.output(2));
        Check.dueThrow("output(-1)", OUT, () -> x.output(-1));
        Check.due("outputs after refusals", 3, x.count(3));
    }

    private static void outputStopsAt10() {
        CycleCutter x = new CycleCutter();
        x.gate(0);
        for (int i = 0; i < 10; i++) {
            Check.due("output " + i, i, x.output(0));
        }
        Check.due("an eleventh output", -1, x.output(0));
        Check.dueThrow("output(1) with 10", OUT, () -> x.output(1));
        Check.due("outputs", 10, x.count(3));
        Check.due("lay() of 10", 2, x.lay());
        Check.due("run(9, 255)", 1, x.run(9, 255));
        Check.dueThrow("run(10, 0)", OUT, () -> x.run(10, 0));
    }

    private static void clearDropsAll() {
        CycleCutter x = new CycleCutter();
        x.gate(0);
        x.gate(0);
        x.gate(3);
        x.feed(2, 0, false);
        x.feed(2, 2, false);
        x.output(2);
        x.lay();
        Check.due("clear()", 3, x.clear());
        for (int what = 0; what <= 6; what++) {
            Check.due("cleared count(" + what + ")", 0, x.count(what));
        }
        Check.due("cleared at(0)", 0, x.at(0));
        Check.due("cleared doubt(0)", -1, x.doubt(0));
        Check.dueThrow("cleared run(0, 0)", OUT, () -> x.run(0, 0));
        Check.dueThrow("cleared way(0, 0)", OUT, () -> x.way(0, 0));
        Check.dueThrow("cleared size(0, true)", OUT, () -> x.size(0, true));
        Check.dueThrow("cleared known(0)", OUT, () -> x.known(0));
        Check.dueThrow("cleared value(0, 0)", OUT, () -> x.value(0, 0));
        Check.due("clear() again", 0, x.clear());
        Check.due("a gate of another sort", 0, x.gate(3));
        Check.due("it has no feeds left over", 0, x.value(0, 128));
        Check.due("input 0 anew", 1, x.gate(0));
        Check.due("its value", 1, x.value(1, 128));
        Check.due("feeds count anew", 1, x.feed(0, 1, true));
        Check.due("the gate that had feeds, anew", 2, x.gate(2));
        Check.due("its feeds count anew", 1, x.feed(2, 1, false));
        Check.due("outputs count anew", 0, x.output(0));
    }

    private static void valueOfInputs() {
        CycleCutter x = new CycleCutter();
        x.gate(2);
        for (int k = 0; k < 8; k++) {
            int gate = x.gate(0);
            for (int choice = 0; choice < 256; choice += 5) {
                String call = "value of input " + k + " on " + choice;
                Check.due(call, (choice >> (7 - k)) & 1, x.value(gate, choice));
            }
            Check.due("value of input " + k + " on 255", 1, x.value(gate, 255));
        }
    }

    // An or and an and without feeds are 0 and 1, and a gate that feeds itself alone is unknown.
    private static void valueOfAndAndOr() {
        int[][] and = {{0, 0, 0}, {0, 1, 2}, {0, 2, 2}};
        int[][] or = {{0, 1, 2}, {1, 1, 1}, {2, 1, 2}};
        int[] not = {1, 0, 2};
        CycleCutter x = new CycleCutter();
        int zero = x.gate(3);
        int one = x.gate(2);
        int unknown = x.gate(2);
        x.feed(unknown, unknown, false);
        int[] of = {zero, one, unknown};
        for (int a = 0; a < 3; a++) {
            for (int b = 0; b < 3; b++) {
                for (int n = 0; n < 4; n++) {
                    boolean first = (n & 1) != 0;
                    boolean second = (n & 2) != 0;
                    int p = first ? not[a] : a;
                    int q = second ? not[b] : b;
                    int g = x.gate(2);
                    x.feed(g, of[a], first);
                    x.feed(g, of[b], second);
                    Check.due("and of " + p + " and " + q, and[p][q], x.value(g, 77));
                    int h = x.gate(3);
                    x.feed(h, of[a], first);
                    x.feed(h, of[b], second);
                    Check.due("or of " + p + " and " + q, or[p][q], x.value(h, 77));
                }
            }
        }
    }

    private static void valueWithoutFeeds() {
        CycleCutter x = new CycleCutter();
        x.gate(2);
        x.gate(3);
        Check.due("an and without feeds", 1, x.value(0, 0));
        Check.due("an or without feeds", 0, x.value(1, 255));
    }

    private static void valueOnCycles() {
        CycleCutter x = new CycleCutter();
        x.gate(0);
        x.gate(2);
        x.gate(3);
        x.feed(1, 2, false);
        x.feed(1, 0, false);
        x.feed(2, 1, false);
        Check.due("a cycle cut by 0", 0, x.value(1, 0));
        Check.due("what the cut cycle feeds", 0, x.value(2, 127));
        Check.due("a cycle not cut", 2, x.value(1, 128));
        Check.due("round the cycle", 2, x.value(2, 255));
        int g = x.gate(3);
        x.feed(g, g, true);
        Check.due("not itself", 2, x.value(g, 0));
        int h = x.gate(3);
        x.feed(h, g, false);
        x.feed(h, g, true);
        Check.due("unknown or its negation stays unknown", 2, x.value(h, 0));
    }

    private static void valueFollowsTheNet() {
        CycleCutter x = new CycleCutter();
        x.gate(0);
        x.gate(2);
        Check.due("without feeds", 1, x.value(1, 0));
        x.feed(1, 0, false);
        Check.due("with a feed", 0, x.value(1, 0));
        Check.due("with a feed, the input 1", 1, x.value(1, 128));
        x.feed(1, 1, false);
        Check.due("with itself", 2, x.value(1, 128));
        Check.due("with itself, the input 0", 0, x.value(1, 0));
        x.gate(2);
        Check.due("a gate more", 1, x.value(2, 0));
    }

    private static void valueAgainstTheOrderOfGates() {
        CycleCutter x = new CycleCutter();
        for (int i = 0; i < 119; i++) {
            x.gate(i % 2 == 0 ? 2 : 3);
        }
        x.gate(0);
        for (int i = 0; i < 119; i++) {
            x.feed(i, i + 1, true);
        }
        for (int i = 0; i < 119; i++) {
            Check.due("chain, gate " + i + " on 0", (119 - i) % 2, x.value(i, 0));
            Check.due("chain, gate " + i + " on 255", (118 - i) % 2 == 0 ? 0 : 1, x.value(i, 255));
        }
    }

    private static void valueRefusesWrongArguments() {
        CycleCutter x = new CycleCutter();
        x.gate(0);
        Check.dueThrow("value(1, 0)", OUT, () -> x.value(1, 0));
        Check.dueThrow("value(-1, 0)", OUT, () -> x.value(-1, 0));
        Check.dueThrow("value(120, 0)", OUT, () -> x.value(120, 0));
        Check.dueThrow("value(0, -1)", OUT, () -> x.value(0, -1));
        Check.dueThrow("value(0, 256)", OUT, () -> x.value(0, 256));
        Check.due("value(0, 0)", 0, x.value(0, 0));
        Check.due("value(0, 255)", 1, x.value(0, 255));
    }

    private static void countCounts() {
        CycleCutter x = new CycleCutter();
        x.gate(0);
        x.gate(0);
        x.gate(2);
        x.gate(3);
        x.gate(3);
        x.feed(2, 0, false);
        x.feed(2, 1, false);
        x.feed(3, 2, false);
        x.output(2);
        x.output(3);
        x.output(0);
        x.output(1);
        Check.due("gates", 5, x.count(0));
        Check.due("feeds", 3, x.count(1));
        Check.due("inputs", 2, x.count(2));
        Check.due("outputs", 4, x.count(3));
        Check.due("outputs laid out", 0, x.count(4));
        int[] others = {-1, 7, 8, Integer.MIN_VALUE, Integer.MAX_VALUE};
        for (int what : others) {
            Check.due("count(" + what + ")", -1, x.count(what));
        }
    }
}
