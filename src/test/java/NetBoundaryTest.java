/**
 * The boundary cases of promises 1 to 5 and 13 and of the terms that they use: above each test
 * stands the sentence of the document that it is about, and it looks at both sides of the boundary.
 */
public final class NetBoundaryTest {
    private static final Class<IndexOutOfBoundsException> OUT = IndexOutOfBoundsException.class;
    private static final Class<IllegalStateException> STATE = IllegalStateException.class;
    private static final Class<IllegalArgumentException> ARGUMENT = IllegalArgumentException.class;
    private static final int[] FAR = {Integer.MIN_VALUE, Integer.MIN_VALUE + 1, -256, -128, -2,
        128, 256, 512, 65536, Integer.MAX_VALUE - 1, Integer.MAX_VALUE};

    public static void main(String[] args) {
        aNewObjectHasNoGates();
        gateLetsIn120();
        gateLetsIn120WithInputs();
        gateLetsIn8Inputs();
        the8thInputMayBeThe120thGate();
        gateTakesSorts0And2And3();
        gateRefusesASortAlsoWhenFull();
        feedLetsIn500AtOneGate();
        feedLetsIn500InAll();
        the500thFeedFeeds();
        feedRefusesGatesThatAreNotThere();
        feedOfAMissingGateComesBeforeTheInput();
        feedRefusesEveryInput();
        feedThrowsAlsoWhenFull();
        feedTakesOtherGatesOrItself();
        outputLetsIn10();
        outputRefusesGatesThatAreNotThere();
        aGateMayBeSeveralOutputs();
        clearOfNothing();
        clearOfAsMuchAsCanBe();
        clearOfAllFeeds();
        valueOfTheFirstAndTheLastGate();
        valueOnTheFirstAndTheLastChoice();
        Check.end();
    }

    private static void dueFull(CycleCutter x, String call, Check.Call made) {
        String before = Nets.countsOf(x);
        Check.due(call, "-1", Check.answerOf(made));
        Check.due("counts after " + call, before, Nets.countsOf(x));
    }

    private static void dueRefused(CycleCutter x, String call,
            Class<? extends RuntimeException> want, Check.Call made) {
        String before = Nets.countsOf(x);
        Check.dueThrow(call, want, made);
        Check.due("counts after " + call, before, Nets.countsOf(x));
    }

    // Promise 1: "No gates."
    private static void aNewObjectHasNoGates() {
        CycleCutter x = new CycleCutter();
        Check.due("counts of a new object", "0 0 0 0 0 0 0", Nets.countsOf(x));
        Check.dueThrow("new value(0, 0)", OUT, () -> x.value(0, 0));
        Check.dueThrow("new output(0)", OUT, () -> x.output(0));
        Check.dueThrow("new feed(0, 0, true)", OUT, () -> x.feed(0, 0, true));
        Check.due("the first gate", 0, x.gate(Nets.AND));
        Check.due("counts with one gate", "1 0 0 0 0 0 0", Nets.countsOf(x));
        Check.due("value(0, 0) with one gate", 1, x.value(0, 0));
        Check.due("feed(0, 0, true) with one gate", 1, x.feed(0, 0, true));
        Check.due("output(0) with one gate", 0, x.output(0));
        Check.dueThrow("value(1, 0) with one gate", OUT, () -> x.value(1, 0));
    }

    // Promise 2: "NONE when there are 120"
    private static void gateLetsIn120() {
        for (int last : new int[] {Nets.AND, Nets.OR, Nets.INPUT}) {
            CycleCutter x = new CycleCutter();
            Nets.addGates(x, Nets.AND, 119);
            Check.due("gates", 119, x.count(0));
            Check.due("gate(" + last + ") with 119", 119, x.gate(last));
            dueFull(x, "gate(0) with 120", () -> x.gate(0));
            dueFull(x, "gate(2) with 120", () -> x.gate(2));
            dueFull(x, "gate(3) with 120", () -> x.gate(3));
            Check.due("gates", 120, x.count(0));
            Check.due("inputs", last == Nets.INPUT ? 1 : 0, x.count(2));
            Check.due("value of the 120th", last == Nets.OR ? 0 : 1, x.value(119, 128));
            Check.due("value of the 119th", 1, x.value(118, 128));
        }
    }

    // Promise 2: "NONE when there are 120", whatever sorts they are of
    private static void gateLetsIn120WithInputs() {
        CycleCutter x = Nets.withInputs(8);
        Nets.addGates(x, Nets.OR, 111);
        dueFull(x, "gate(0) with 119, 8 of them inputs", () -> x.gate(0));
        Check.due("gate(3) with 119, 8 of them inputs", 119, x.gate(3));
        dueFull(x, "gate(0) with 120, 8 of them inputs", () -> x.gate(0));
        dueFull(x, "gate(2) with 120, 8 of them inputs", () -> x.gate(2));
        dueFull(x, "gate(3) with 120, 8 of them inputs", () -> x.gate(3));
    }

    // Promise 2: "or 8 inputs and this is one"
    private static void gateLetsIn8Inputs() {
        CycleCutter x = new CycleCutter();
        for (int k = 0; k < 8; k++) {
            Check.due("inputs before input " + k, k, x.count(2));
            Check.due("an and before input " + k, 2 * k, x.gate(Nets.AND));
            Check.due("input " + k, 2 * k + 1, x.gate(Nets.INPUT));
        }
        dueFull(x, "gate(0) with 8 inputs", () -> x.gate(0));
        Check.due("inputs", 8, x.count(2));
        Check.due("an and with 8 inputs", 16, x.gate(Nets.AND));
        Check.due("an or with 8 inputs", 17, x.gate(Nets.OR));
        dueFull(x, "gate(0) with 8 inputs, again", () -> x.gate(0));
        for (int k = 0; k < 8; k++) {
            int gate = 2 * k + 1;
            Check.due("input " + k + " on its bit", 1, x.value(gate, 128 >> k));
            Check.due("input " + k + " on all others", 0, x.value(gate, 255 - (128 >> k)));
        }
    }

    // Promise 2: both limits at once
    private static void the8thInputMayBeThe120thGate() {
        CycleCutter x = Nets.withInputs(7);
        Nets.addGates(x, Nets.AND, 112);
        Check.due("gate(0) with 7 inputs and 119 gates", 119, x.gate(Nets.INPUT));
        Check.due("the 8th input on 1", 1, x.value(119, 1));
        Check.due("the 8th input on 254", 0, x.value(119, 254));
        dueFull(x, "gate(0) with 8 inputs and 120 gates", () -> x.gate(0));
    }

    // Promise 2: "IllegalArgumentException when sort is not 0, 2 or 3."
    private static void gateTakesSorts0And2And3() {
        CycleCutter x = new CycleCutter();
        int[] wrong = {-1, 1, 4, 5, 254, 257, 258, 259, 65538, -3};
        for (int sort : wrong) {
            dueRefused(x, "gate(" + sort + ")", ARGUMENT, () -> x.gate(sort));
        }
        for (int sort : FAR) {
            dueRefused(x, "gate(" + sort + ")", ARGUMENT, () -> x.gate(sort));
        }
        Check.due("gate(0)", 0, x.gate(0));
        Check.due("gate(2)", 1, x.gate(2));
        Check.due("gate(3)", 2, x.gate(3));
        Check.due("gate 0 is an input, 0 on 127", 0, x.value(0, 127));
        Check.due("gate 0 is an input, 1 on 128", 1, x.value(0, 128));
        Check.due("gate 1 is an and", 1, x.value(1, 0));
        Check.due("gate 2 is an or", 0, x.value(2, 0));
    }

    // Promise 2: "IllegalArgumentException when sort is not 0, 2 or 3", also where NONE is near
    private static void gateRefusesASortAlsoWhenFull() {
        CycleCutter x = Nets.withInputs(8);
        dueRefused(x, "gate(1) with 8 inputs", ARGUMENT, () -> x.gate(1));
        Nets.addGates(x, Nets.AND, 111);
        dueRefused(x, "gate(4) with 119", ARGUMENT, () -> x.gate(4));
        Check.due("gate(2) with 119", 119, x.gate(2));
        for (int sort : new int[] {-1, 1, 4}) {
            dueRefused(x, "gate(" + sort + ") with 120", ARGUMENT, () -> x.gate(sort));
        }
    }

    // Promise 3: "how many feeds this has; NONE when there are 500 in all", all at one gate
    private static void feedLetsIn500AtOneGate() {
        CycleCutter x = new CycleCutter();
        x.gate(Nets.AND);
        x.gate(Nets.AND);
        for (int i = 1; i <= 500; i++) {
            Check.due("feed " + i + " of one gate", i, x.feed(1, 0, false));
        }
        Check.due("feed 501 of one gate", -1, x.feed(1, 0, false));
        Check.due("feed 501, of a gate without any", -1, x.feed(0, 0, false));
        Check.due("feeds", 500, x.count(1));
        Check.due("the gate without any stays so", 1, x.value(0, 0));
        Check.due("the gate with 500", 1, x.value(1, 0));
    }

    // Promise 3: "NONE when there are 500 in all", at several gates together
    private static void feedLetsIn500InAll() {
        CycleCutter x = new CycleCutter();
        x.gate(Nets.AND);
        x.gate(Nets.OR);
        x.gate(Nets.AND);
        Nets.addFeeds(x, 1, 0, 250);
        Nets.addFeeds(x, 2, 0, 249);
        Check.due("feeds", 499, x.count(1));
        Check.due("feed 500", 250, x.feed(2, 0, false));
        Check.due("feed 501 of the one", -1, x.feed(1, 0, false));
        Check.due("feed 501 of the other", -1, x.feed(2, 0, true));
        Check.due("feed 501 of the one without any", -1, x.feed(0, 0, true));
        Check.due("feeds", 500, x.count(1));
        Check.due("the one without any", 1, x.value(0, 255));
        Check.due("the other", 1, x.value(2, 255));
    }

    // Promise 3: the last that is let in counts, the first that is refused does not.
    private static void the500thFeedFeeds() {
        CycleCutter x = Nets.withInputs(1);
        x.gate(Nets.AND);
        x.gate(Nets.OR);
        Nets.addFeeds(x, 1, 0, 499);
        Check.due("before the 500th", 0, x.value(2, 0));
        Check.due("the 500th, negated", 1, x.feed(2, 0, true));
        Check.due("after the 500th", 1, x.value(2, 0));
        Check.due("the 501st", -1, x.feed(2, 1, true));
        Check.due("a feed of the and, refused", -1, x.feed(1, 0, true));
        Check.due("the or on 128", 0, x.value(2, 128));
        Check.due("the and on 128", 1, x.value(1, 128));
        Check.due("the and on 127", 0, x.value(1, 127));
    }

    // Promise 3: "IndexOutOfBoundsException when one of both is not there"
    private static void feedRefusesGatesThatAreNotThere() {
        CycleCutter x = new CycleCutter();
        Nets.addGates(x, Nets.OR, 3);
        for (int gate : new int[] {-1, 3, 4, 119, 120, 121}) {
            dueRefused(x, "feed(" + gate + ", 0)", OUT, () -> x.feed(gate, 0, false));
            dueRefused(x, "feed(0, " + gate + ")", OUT, () -> x.feed(0, gate, true));
        }
        for (int gate : FAR) {
            Check.dueThrow("feed(" + gate + ", 0)", OUT, () -> x.feed(gate, 0, true));
            Check.dueThrow("feed(0, " + gate + ")", OUT, () -> x.feed(0, gate, false));
        }
        dueRefused(x, "feed(-1, 3)", OUT, () -> x.feed(-1, 3, false));
        dueRefused(x, "feed(3, 3)", OUT, () -> x.feed(3, 3, false));
        Check.due("feed(0, 2)", 1, x.feed(0, 2, false));
        Check.due("feed(2, 0)", 1, x.feed(2, 0, true));
        Nets.addGates(x, Nets.OR, 117);
        Check.due("feed(119, 0)", 1, x.feed(119, 0, false));
        Check.due("feed(0, 119)", 2, x.feed(0, 119, false));
        dueRefused(x, "feed(120, 0) with 120", OUT, () -> x.feed(120, 0, false));
        dueRefused(x, "feed(0, 120) with 120", OUT, () -> x.feed(0, 120, false));
    }

    // Promise 3: "else IllegalStateException": a gate that is not there comes before
    private static void feedOfAMissingGateComesBeforeTheInput() {
        CycleCutter x = Nets.withInputs(2);
        x.gate(Nets.AND);
        dueRefused(x, "feed(0, 3)", OUT, () -> x.feed(0, 3, false));
        dueRefused(x, "feed(1, -1)", OUT, () -> x.feed(1, -1, true));
        dueRefused(x, "feed(3, 0)", OUT, () -> x.feed(3, 0, false));
        dueRefused(x, "feed(-1, 0)", OUT, () -> x.feed(-1, 0, false));
        dueRefused(x, "feed(0, 2)", STATE, () -> x.feed(0, 2, false));
        dueRefused(x, "feed(1, 0)", STATE, () -> x.feed(1, 0, true));
    }

    // Promise 3: "IllegalStateException when to is an input"
    private static void feedRefusesEveryInput() {
        CycleCutter x = new CycleCutter();
        for (int k = 0; k < 8; k++) {
            x.gate(Nets.INPUT);
            x.gate(k % 2 == 0 ? Nets.AND : Nets.OR);
        }
        for (int gate = 0; gate < 16; gate += 2) {
            int input = gate;
            Check.dueThrow("input " + gate + " by a gate", STATE, () -> x.feed(input, 1, false));
            Check.dueThrow("input " + gate + " by itself", STATE, () -> x.feed(input, input, true));
            Check.due("a gate by input " + gate, 1, x.feed(gate + 1, input, false));
            Check.due("value of input " + gate, 1, x.value(input, 255));
        }
        Check.due("feeds", 8, x.count(1));
    }

    // Promise 3: what throws does so with 500 feeds too
    private static void feedThrowsAlsoWhenFull() {
        CycleCutter x = Nets.withInputs(1);
        x.gate(Nets.AND);
        Nets.addFeeds(x, 1, 0, 499);
        Check.dueThrow("feed(0, 1) with 499", STATE, () -> x.feed(0, 1, false));
        Check.due("feed(1, 1) as the 500th", 500, x.feed(1, 1, false));
        Check.dueThrow("feed(0, 1) with 500", STATE, () -> x.feed(0, 1, false));
        Check.dueThrow("feed(2, 1) with 500", OUT, () -> x.feed(2, 1, false));
        Check.dueThrow("feed(1, 2) with 500", OUT, () -> x.feed(1, 2, false));
        Check.dueThrow("feed(0, -1) with 500", OUT, () -> x.feed(0, -1, false));
        Check.due("feed(1, 0) with 500", -1, x.feed(1, 0, false));
        Check.due("feeds", 500, x.count(1));
    }

    // Terms: "FEEDS, other gates or themselves, each taken as it is or NEGATED"
    private static void feedTakesOtherGatesOrItself() {
        CycleCutter x = Nets.withInputs(1);
        int and = x.gate(Nets.AND);
        int or = x.gate(Nets.OR);
        int later = x.gate(Nets.AND);
        Check.due("by itself", 1, x.feed(and, and, false));
        Check.due("by itself, negated", 1, x.feed(or, or, true));
        Check.due("and by itself", 2, x.value(and, 0));
        Check.due("or by itself, negated", 2, x.value(or, 0));
        Check.due("by a later one", 2, x.feed(or, later, false));
        Check.due("or by a later one too", 1, x.value(or, 0));
        Check.due("by an earlier one", 2, x.feed(and, 0, false));
        Check.due("and by an input too, 0", 0, x.value(and, 127));
        Check.due("and by an input too, 1", 2, x.value(and, 128));
        Check.due("by the same one again", 3, x.feed(and, 0, false));
        Check.due("by the same one negated", 4, x.feed(and, 0, true));
        Check.due("and by an input and its negation", 0, x.value(and, 128));
    }

    // Promise 4: "NONE when there are 10."
    private static void outputLetsIn10() {
        CycleCutter x = new CycleCutter();
        Nets.addGates(x, Nets.AND, 12);
        for (int i = 0; i < 9; i++) {
            Check.due("output " + i, i, x.output(i));
        }
        Check.due("outputs", 9, x.count(3));
        Check.due("the 10th output", 9, x.output(9));
        dueFull(x, "the 11th output", () -> x.output(10));
        dueFull(x, "an output that is one already", () -> x.output(0));
        Check.due("outputs", 10, x.count(3));
        x.lay();
        Check.due("outputs laid out", 10, x.count(4));
        dueFull(x, "the 11th output after lay", () -> x.output(11));
        dueRefused(x, "output(12) with 10", OUT, () -> x.output(12));
        dueRefused(x, "output(-1) with 10", OUT, () -> x.output(-1));
    }

    // Promise 4: "IndexOutOfBoundsException when it is not there."
    private static void outputRefusesGatesThatAreNotThere() {
        CycleCutter x = new CycleCutter();
        Nets.addGates(x, Nets.AND, 2);
        for (int gate : new int[] {-1, 2, 3, 10, 120}) {
            dueRefused(x, "output(" + gate + ")", OUT, () -> x.output(gate));
        }
        for (int gate : FAR) {
            Check.dueThrow("output(" + gate + ")", OUT, () -> x.output(gate));
        }
        Check.due("output(0)", 0, x.output(0));
        Check.due("output(1)", 1, x.output(1));
        Nets.addGates(x, Nets.OR, 118);
        Check.due("output(119)", 2, x.output(119));
        dueRefused(x, "output(120) with 120", OUT, () -> x.output(120));
    }

    // Terms: "a gate may be several"
    private static void aGateMayBeSeveralOutputs() {
        CycleCutter x = Nets.withInputs(1);
        for (int i = 0; i < 10; i++) {
            Check.due("output " + i + " of one gate", i, x.output(0));
        }
        dueFull(x, "the 11th output of one gate", () -> x.output(0));
        Check.due("lay() of one gate 10 times", 2, x.lay());
        for (int i = 0; i < 10; i++) {
            Check.due("run(" + i + ", 127)", 0, x.run(i, 127));
            Check.due("run(" + i + ", 128)", 1, x.run(i, 128));
        }
    }

    // Promise 5: "how many gates there were", with none and with one
    private static void clearOfNothing() {
        CycleCutter x = new CycleCutter();
        Check.due("clear() of a new object", 0, x.clear());
        Check.due("clear() again", 0, x.clear());
        x.gate(Nets.INPUT);
        Check.due("clear() of one gate", 1, x.clear());
        Check.due("clear() behind it", 0, x.clear());
        Check.due("the first gate anew", 0, x.gate(Nets.OR));
    }

    // Promise 5: "No gates, no outputs, nothing laid out": all limits begin anew
    private static void clearOfAsMuchAsCanBe() {
        CycleCutter x = Nets.withInputs(8);
        Nets.addGates(x, Nets.AND, 112);
        for (int i = 0; i < 10; i++) {
            x.output(i);
        }
        x.lay();
        Check.due("counts", "120 0 8 10 10 16 1", Nets.countsOf(x));
        Check.due("clear() of 120", 120, x.clear());
        Check.due("counts cleared", "0 0 0 0 0 0 0", Nets.countsOf(x));
        for (int k = 0; k < 8; k++) {
            Check.due("at(" + k + ") cleared", 0, x.at(k));
        }
        Check.dueThrow("value(0, 0) cleared", OUT, () -> x.value(0, 0));
        Check.dueThrow("run(0, 0) cleared", OUT, () -> x.run(0, 0));
        Check.due("lay() cleared", 0, x.lay());
        Check.due("outputs laid out", 0, x.count(4));
        for (int k = 0; k < 8; k++) {
            Check.due("input " + k + " anew", k, x.gate(Nets.INPUT));
        }
        dueFull(x, "a ninth input anew", () -> x.gate(0));
        for (int gate = 8; gate < 120; gate++) {
            Check.due("gate " + gate + " anew", gate, x.gate(Nets.OR));
        }
        dueFull(x, "gate 120 anew", () -> x.gate(2));
        for (int i = 0; i < 10; i++) {
            Check.due("output " + i + " anew", i, x.output(119));
        }
        dueFull(x, "output 10 anew", () -> x.output(119));
        Check.due("a gate of another sort than before", 0, x.value(119, 0));
    }

    // Promise 5: "No gates", so none of their feeds
    private static void clearOfAllFeeds() {
        CycleCutter x = new CycleCutter();
        x.gate(Nets.AND);
        Nets.addFeeds(x, 0, 0, 500);
        Check.due("feed with 500", -1, x.feed(0, 0, false));
        Check.due("value with 500", 2, x.value(0, 0));
        Check.due("clear()", 1, x.clear());
        Check.due("feeds cleared", 0, x.count(1));
        Check.due("the gate anew", 0, x.gate(Nets.AND));
        Check.due("its value, without feeds", 1, x.value(0, 0));
        Check.due("its first feed", 1, x.feed(0, 0, true));
        Check.due("feeds", 1, x.count(1));
    }

    // Promise 13: "IndexOutOfBoundsException when it is not there"
    private static void valueOfTheFirstAndTheLastGate() {
        CycleCutter x = Nets.withInputs(1);
        x.gate(Nets.OR);
        for (int gate : new int[] {-1, 2, 3, 119, 120, 121}) {
            dueRefused(x, "value(" + gate + ", 0)", OUT, () -> x.value(gate, 0));
        }
        for (int gate : FAR) {
            Check.dueThrow("value(" + gate + ", 255)", OUT, () -> x.value(gate, 255));
        }
        Check.due("value(0, 255)", 1, x.value(0, 255));
        Check.due("value(1, 255)", 0, x.value(1, 255));
        Nets.addGates(x, Nets.AND, 118);
        Check.due("value(119, 0) with 120", 1, x.value(119, 0));
        Check.dueThrow("value(120, 0) with 120", OUT, () -> x.value(120, 0));
        Check.dueThrow("value(-1, 0) with 120", OUT, () -> x.value(-1, 0));
    }

    // Promise 13: "or choice is not 0 .. 255."
    private static void valueOnTheFirstAndTheLastChoice() {
        CycleCutter x = Nets.withInputs(8);
        int all = Nets.gateOfFirst(x, Nets.AND, 8);
        int some = Nets.gateOfFirst(x, Nets.OR, 8);
        dueRefused(x, "value on -1", OUT, () -> x.value(all, -1));
        dueRefused(x, "value on 256", OUT, () -> x.value(some, 256));
        for (int choice : FAR) {
            if (choice < 0 || choice > 255) {
                Check.dueThrow("value on " + choice, OUT, () -> x.value(all, choice));
            }
        }
        Check.dueThrow("value of no gate on no choice", OUT, () -> x.value(10, 256));
        Check.due("and on 255", 1, x.value(all, 255));
        Check.due("and on 254", 0, x.value(all, 254));
        Check.due("or on 0", 0, x.value(some, 0));
        Check.due("or on 1", 1, x.value(some, 1));
    }
}
