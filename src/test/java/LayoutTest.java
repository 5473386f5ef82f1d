/** Promises 6 to 12 and 14: what is laid out, and how it is run through. */
public final class LayoutTest {
    private static final Class<IndexOutOfBoundsException> OUT = IndexOutOfBoundsException.class;

    public static void main(String[] args) {
        layCountsAllOnce();
        layTakesThePlaceOfWhatWas();
        constantsHaveNoMultiplexers();
        unknownHasNoMultiplexers();
        theLayoutStaysAsTheNetChanges();
        inputsThatAreNotThereArePassedOver();
        multiplexersStandAtTheFirstInput();
        multiplexersSkipInputs();
        runAndWayRefuseWrongArguments();
        sizeAndKnownRefuseWrongOutputs();
        outputsAfterLayAreNotLaidOut();
        atOfInputsThatAreNotThere();
        doubtLooksUpwards();
        doubtLooksAtAllOutputs();
        eightInputsOnAllChoices();
        Check.end();
    }

    private static void layCountsAllOnce() {
        CycleCutter x = Nets.withInputs(2);
        int and = Nets.gateOf(x, 2, 0, false, 1, false);
        int nand = Nets.gateOf(x, 3, 0, true, 1, true);
        x.output(and);
        Check.due("an and: two functions of two", 4, x.lay());
        x.output(nand);
        Check.due("its negation has the same functions", 4, x.lay());
        x.output(and);
        Check.due("the same gate again", 4, x.lay());
        x.output(1);
        Check.due("an input below them", 4, x.lay());
        x.output(0);
        Check.due("the other input", 6, x.lay());
        Check.due("multiplexers", 6, x.count(5));
        Check.due("outputs laid out", 5, x.count(4));
        Check.due("longest row", 2, x.count(6));
        Check.due("size of the and, high", 2, x.size(0, true));
        Check.due("size of the and, low", 2, x.size(0, false));
        Check.due("size of the input", 1, x.size(3, true));
        Check.due("at(0)", 4, x.at(0));
        Check.due("at(1)", 2, x.at(1));
    }

    private static void layTakesThePlaceOfWhatWas() {
        CycleCutter x = Nets.withInputs(2);
        int xor = Nets.xorOf(x, 0, 1);
        x.output(xor);
        Check.due("lay() of xor", 4, x.lay());
        Check.due("lay() again", 4, x.lay());
        Check.due("longest", 2, x.count(6));
        x.feed(xor, x.gate(2), false);
        Check.due("lay() of a constant", 0, x.lay());
        Check.due("multiplexers", 0, x.count(5));
        Check.due("longest", 0, x.count(6));
        Check.due("at(0)", 0, x.at(0));
        Check.due("size", 0, x.size(0, true));
        Check.due("run", 1, x.run(0, 0));
    }

    private static void constantsHaveNoMultiplexers() {
        CycleCutter x = Nets.withInputs(1);
        x.output(x.gate(2));
        x.output(x.gate(3));
        x.output(Nets.gateOf(x, 2, 0, false, 0, true));
        Check.due("lay() of constants", 0, x.lay());
        Check.due("run of 1", 1, x.run(0, 255));
        Check.due("run of 0", 0, x.run(1, 0));
        Check.due("run of input and not input", 0, x.run(2, 200));
        Check.due("way of 1", 0, x.way(0, 255));
        Check.due("way of 0", 0, x.way(2, 0));
        Check.due("known of 1", 256, x.known(0));
        Check.due("known of 0", 256, x.known(1));
        Check.due("size of 1", 0, x.size(0, true));
        Check.due("longest row", 0, x.count(6));
        Check.due("outputs laid out", 3, x.count(4));
    }

    private static void unknownHasNoMultiplexers() {
        CycleCutter x = Nets.withInputs(1);
        int gate = x.gate(2);
        x.feed(gate, gate, false);
        x.output(gate);
        Check.due("lay() of unknown", 0, x.lay());
        Check.due("run", 2, x.run(0, 0));
        Check.due("run", 2, x.run(0, 255));
        Check.due("known", 0, x.known(0));
        Check.due("doubt(0)", 0, x.doubt(0));
        Check.due("doubt(255)", 255, x.doubt(255));
    }

    private static void theLayoutStaysAsTheNetChanges() {
        CycleCutter x = Nets.withInputs(1);
        int gate = x.gate(3);
        x.feed(gate, 0, false);
        x.output(gate);
        x.lay();
        x.feed(gate, gate, false);
        x.gate(0);
        Check.due("value now", 2, x.value(gate, 0));
        Check.due("run as laid out", 0, x.run(0, 0));
        Check.due("known as laid out", 256, x.known(0));
        Check.due("doubt as laid out", -1, x.doubt(0));
        Check.due("size as laid out", 1, x.size(0, false));
        Check.due("count(5) as laid out", 2, x.count(5));
        Check.due("at(0) as laid out", 2, x.at(0));
        Check.due("lay()", 1, x.lay());
        Check.due("run now", 2, x.run(0, 0));
        Check.due("known now", 128, x.known(0));
        Check.due("size now", 0, x.size(0, false));
        Check.due("doubt now", 0, x.doubt(0));
        Check.due("doubt above", -1, x.doubt(128));
    }

    private static void inputsThatAreNotThereArePassedOver() {
        CycleCutter x = Nets.withInputs(2);
        x.output(Nets.gateOf(x, 2, 0, false, 1, false));
        x.lay();
        for (int choice = 0; choice < 256; choice++) {
            Check.due("run on " + choice, choice >= 192 ? 1 : 0, x.run(0, choice));
        }
        Check.due("known", 256, x.known(0));
    }

    private static void multiplexersStandAtTheFirstInput() {
        CycleCutter x = Nets.withInputs(3);
        x.output(Nets.gateOf(x, 2, 2, false, 1, true));
        Check.due("lay()", 4, x.lay());
        Check.due("at(0)", 0, x.at(0));
        Check.due("at(1)", 2, x.at(1));
        Check.due("at(2)", 2, x.at(2));
        Check.due("way, input 1 decides", 2, x.way(0, 64));
        Check.due("way, input 2 too", 4, x.way(0, 32));
        Check.due("run", 1, x.run(0, 32));
        Check.due("run", 0, x.run(0, 96));
    }

    private static void multiplexersSkipInputs() {
        CycleCutter x = Nets.withInputs(8);
        x.output(Nets.xorOf(x, 0, 7));
        x.output(7);
        Check.due("lay()", 4, x.lay());
        Check.due("at(0)", 2, x.at(0));
        Check.due("at(7)", 2, x.at(7));
        Check.due("at(3)", 0, x.at(3));
        Check.due("size of xor", 3, x.size(0, true));
        Check.due("size of xor, low", 3, x.size(0, false));
        Check.due("size of the input", 1, x.size(1, true));
        Check.due("longest row", 2, x.count(6));
        Check.due("way of xor", 4, x.way(0, 255));
        Check.due("way of the input", 2, x.way(1, 0));
        Check.due("run of xor", 1, x.run(0, 128));
        Check.due("run of xor", 0, x.run(0, 129));
    }

    private static void runAndWayRefuseWrongArguments() {
        CycleCutter x = Nets.withInputs(1);
        x.output(0);
        Check.dueThrow("run before lay", OUT, () -> x.run(0, 0));
        Check.dueThrow("way before lay", OUT, () -> x.way(0, 0));
        x.lay();
        int[][] wrong = {{-1, 0}, {1, 0}, {0, -1}, {0, 256}, {10, 0}, {-1, 256},
            {Integer.MAX_VALUE, 0}, {Integer.MIN_VALUE, 0}, {0, Integer.MAX_VALUE}};
        for (int[] a : wrong) {
            Check.dueThrow("run(" + a[0] + ", " + a[1] + ")", OUT, () -> x.run(a[0], a[1]));
            Check.dueThrow("way(" + a[0] + ", " + a[1] + ")", OUT, () -> x.way(a[0], a[1]));
        }
        Check.due("run(0, 0)", 0, x.run(0, 0));
        Check.due("run(0, 255)", 1, x.run(0, 255));
        Check.due("way(0, 0)", 2, x.way(0, 0));
        Check.due("way(0, 255)", 2, x.way(0, 255));
    }

    private static void sizeAndKnownRefuseWrongOutputs() {
        CycleCutter x = Nets.withInputs(1);
        x.output(0);
        Check.dueThrow("size before lay", OUT, () -> x.size(0, false));
        Check.dueThrow("known before lay", OUT, () -> x.known(0));
        x.lay();
        int[] wrong = {-1, 1, 10, Integer.MAX_VALUE, Integer.MIN_VALUE};
        for (int output : wrong) {
            Check.dueThrow("size(" + output + ", true)", OUT, () -> x.size(output, true));
            Check.dueThrow("size(" + output + ", false)", OUT, () -> x.size(output, false));
            Check.dueThrow("known(" + output + ")", OUT, () -> x.known(output));
        }
    }

    private static void outputsAfterLayAreNotLaidOut() {
        CycleCutter x = Nets.withInputs(2);
        x.output(0);
        x.lay();
        Check.due("output(1)", 1, x.output(1));
        Check.due("outputs", 2, x.count(3));
        Check.due("outputs laid out", 1, x.count(4));
        Check.dueThrow("run(1, 0)", OUT, () -> x.run(1, 0));
        Check.dueThrow("way(1, 0)", OUT, () -> x.way(1, 0));
        Check.dueThrow("known(1)", OUT, () -> x.known(1));
        Check.dueThrow("size(1, true)", OUT, () -> x.size(1, true));
        x.lay();
        Check.due("run(1, 64)", 1, x.run(1, 64));
        Check.due("outputs laid out", 2, x.count(4));
    }

    private static void atOfInputsThatAreNotThere() {
        CycleCutter x = Nets.withInputs(1);
        x.output(0);
        x.lay();
        Check.due("at(0)", 2, x.at(0));
        int[] others = {-1, 1, 7, 8, 9, Integer.MIN_VALUE, Integer.MAX_VALUE};
        for (int k : others) {
            Check.due("at(" + k + ")", 0, x.at(k));
        }
    }

    private static void doubtLooksUpwards() {
        CycleCutter x = Nets.withInputs(8);
        int gate = Nets.gateOf(x, 2, 0, false, 7, false);
        x.feed(gate, gate, false);
        x.output(gate);
        x.lay();
        Check.due("known", 192, x.known(0));
        Check.due("doubt(0)", 129, x.doubt(0));
        Check.due("doubt(129)", 129, x.doubt(129));
        Check.due("doubt(130)", 131, x.doubt(130));
        Check.due("doubt(255)", 255, x.doubt(255));
        Check.due("size, high", 0, x.size(0, true));
        Check.due("size, low", 2, x.size(0, false));
        Check.dueThrow("doubt(-1)", OUT, () -> x.doubt(-1));
        Check.dueThrow("doubt(256)", OUT, () -> x.doubt(256));
    }

    private static void doubtLooksAtAllOutputs() {
        CycleCutter x = Nets.withInputs(8);
        for (int k = 0; k < 8; k++) {
            int gate = Nets.gateOf(x, 2, k, false, (k + 1) % 8, false);
            x.feed(gate, gate, true);
            x.output(gate);
        }
        Check.due("doubt before lay", -1, x.doubt(0));
        x.lay();
        Check.due("doubt(0)", 3, x.doubt(0));
        Check.due("doubt(4)", 6, x.doubt(4));
        Check.due("doubt(8)", 11, x.doubt(8));
        Check.due("doubt(128)", 129, x.doubt(128));
        Check.due("doubt(130)", 131, x.doubt(130));
        Check.due("doubt(168)", 169, x.doubt(168));
    }

    private static void eightInputsOnAllChoices() {
        CycleCutter x = Nets.withInputs(8);
        int parity = 0;
        for (int k = 1; k < 8; k++) {
            parity = Nets.xorOf(x, parity, k);
        }
        x.output(parity);
        Check.due("lay() of parity", 16, x.lay());
        for (int choice = 0; choice < 256; choice++) {
            Check.due("run on " + choice, Integer.bitCount(choice) % 2, x.run(0, choice));
        }
        for (int choice = 0; choice < 256; choice += 3) {
            Check.due("way on " + choice, 16, x.way(0, choice));
        }
        for (int k = 0; k < 8; k++) {
            Check.due("at(" + k + ")", 2, x.at(k));
        }
        Check.due("size", 15, x.size(0, true));
        Check.due("longest row", 8, x.count(6));
        Check.due("known", 256, x.known(0));
    }
}
