/**
 * The boundary cases of the terms: what values gates have, on which choices, and how many calls an
 * object is used for. Above each test stands the sentence of the document that it is about.
 */
public final class ValueBoundaryTest {
    public static void main(String[] args) {
        eachInputHasItsBit();
        inputsAreNumberedAsTheyCome();
        bitsWithoutInputsArePassedOver();
        aLaterInputTakesTheNextBit();
        andWithoutFeedsIs1();
        orWithoutFeedsIs0();
        andIs0IfOneFeedIs();
        orIs1IfOneFeedIs();
        andIs1OnlyIfAllAre();
        orIs0OnlyIfAllAre();
        whatIsTakenNegated();
        settlesThroughAllGates();
        settlesThrough120Gates();
        settlesThroughAllGatesOfACycle();
        valueAsTheNetIsNow();
        aCycleThatNothingDecidesStaysUnknown();
        the512thCallIsAnswered();
        Check.end();
    }

    // "bit 7 - k of it is the value of input k"
    private static void eachInputHasItsBit() {
        CycleCutter x = Nets.withInputs(8);
        for (int k = 0; k < 8; k++) {
            int bit = 1 << (7 - k);
            Check.due("input " + k + " on 0", 0, x.value(k, 0));
            Check.due("input " + k + " below its bit", 0, x.value(k, bit - 1));
            Check.due("input " + k + " on its bit", 1, x.value(k, bit));
            Check.due("input " + k + " up to twice its bit", 1, x.value(k, 2 * bit - 1));
            Check.due("input " + k + " on all but its bit", 0, x.value(k, 255 - bit));
            Check.due("input " + k + " on 255", 1, x.value(k, 255));
        }
    }

    // "numbered 0, 1, .. as they come": not by their number as gates
    private static void inputsAreNumberedAsTheyCome() {
        CycleCutter x = new CycleCutter();
        Nets.addGates(x, Nets.OR, 5);
        int first = x.gate(Nets.INPUT);
        Nets.addGates(x, Nets.AND, 9);
        int second = x.gate(Nets.INPUT);
        Check.due("input 0 on 128", 1, x.value(first, 128));
        Check.due("input 0 on 127", 0, x.value(first, 127));
        Check.due("input 1 on 64", 1, x.value(second, 64));
        Check.due("input 1 on 191", 0, x.value(second, 191));
    }

    // "bits of inputs that there are not are passed over"
    private static void bitsWithoutInputsArePassedOver() {
        for (int inputs = 0; inputs <= 8; inputs++) {
            CycleCutter x = Nets.withInputs(inputs);
            int all = Nets.gateOfFirst(x, Nets.AND, inputs);
            int some = Nets.gateOfFirst(x, Nets.OR, inputs);
            x.output(all);
            x.lay();
            int over = (256 >> inputs) - 1;
            String with = " with " + inputs + " inputs";
            Check.due("and on its last" + with, 1, x.value(all, 255));
            Check.due("and on its first" + with, 1, x.value(all, 255 - over));
            Check.due("or on its first" + with, 0, x.value(some, 0));
            Check.due("or on its last" + with, 0, x.value(some, over));
            Check.due("run on its first" + with, 1, x.run(0, 255 - over));
            Check.due("known" + with, 256, x.known(0));
            if (inputs > 0) {
                Check.due("and before its first" + with, 0, x.value(all, 254 - over));
                Check.due("or behind its last" + with, 1, x.value(some, over + 1));
                Check.due("run before its first" + with, 0, x.run(0, 254 - over));
            }
        }
    }

    // "bits of inputs that there are not": one that comes is passed over no longer
    private static void aLaterInputTakesTheNextBit() {
        CycleCutter x = Nets.withInputs(7);
        int or = Nets.gateOfFirst(x, Nets.OR, 7);
        Check.due("or of 7 on 1", 0, x.value(or, 1));
        Check.due("or of 7 on 2", 1, x.value(or, 2));
        int last = x.gate(Nets.INPUT);
        Check.due("or of 7 on 1, with 8", 0, x.value(or, 1));
        x.feed(or, last, false);
        Check.due("or of 8 on 1", 1, x.value(or, 1));
        Check.due("or of 8 on 0", 0, x.value(or, 0));
    }

    // "1 if all are 1 (also without any)"
    private static void andWithoutFeedsIs1() {
        CycleCutter x = Nets.withInputs(1);
        int and = x.gate(Nets.AND);
        x.output(and);
        Check.due("lay()", 0, x.lay());
        for (int choice : new int[] {0, 63, 64, 127, 128, 191, 192, 255}) {
            Check.due("and without feeds on " + choice, 1, x.value(and, choice));
            Check.due("as laid out, on " + choice, 1, x.run(0, choice));
        }
        x.feed(and, 0, false);
        Check.due("and with one feed on 127", 0, x.value(and, 127));
        Check.due("and with one feed on 128", 1, x.value(and, 128));
    }

    // "0 if all are 0": without any, none is not 0
    private static void orWithoutFeedsIs0() {
        CycleCutter x = Nets.withInputs(1);
        int or = x.gate(Nets.OR);
        x.output(or);
        Check.due("lay()", 0, x.lay());
        for (int choice : new int[] {0, 63, 64, 127, 128, 191, 192, 255}) {
            Check.due("or without feeds on " + choice, 0, x.value(or, choice));
            Check.due("as laid out, on " + choice, 0, x.run(0, choice));
        }
        x.feed(or, 0, false);
        Check.due("or with one feed on 127", 0, x.value(or, 127));
        Check.due("or with one feed on 128", 1, x.value(or, 128));
    }

    /**
     * A gate with feeds 1, 1, .. (for an and) or 0, 0, .. (for an or), but for one of them. The
     * rest may be unknown in place of it.
     */
    private static int valueOfAllBut(int sort, int feeds, int odd, boolean restUnknown) {
        CycleCutter x = new CycleCutter();
        int rest = restUnknown ? Nets.unknownOf(x) : x.gate(sort);
        int other = x.gate(sort == Nets.AND ? Nets.OR : Nets.AND);
        int gate = x.gate(sort);
        for (int i = 0; i < feeds; i++) {
            x.feed(gate, i == odd ? other : rest, false);
        }
        return x.value(gate, 0);
    }

    // "an and is 0 if a feed (as it is taken) is 0"
    private static void andIs0IfOneFeedIs() {
        for (int odd = 0; odd < 5; odd++) {
            Check.due("and, 0 alone at " + odd, 0, valueOfAllBut(Nets.AND, 5, odd, false));
            Check.due("and, 0 among unknowns at " + odd, 0, valueOfAllBut(Nets.AND, 5, odd, true));
        }
        Check.due("and, no 0", 1, valueOfAllBut(Nets.AND, 5, 5, false));
        Check.due("and, unknowns alone", 2, valueOfAllBut(Nets.AND, 5, 5, true));
        Check.due("and, one feed, 0", 0, valueOfAllBut(Nets.AND, 1, 0, false));
        Check.due("and, one feed, 1", 1, valueOfAllBut(Nets.AND, 1, 1, false));
        Check.due("and, one feed, unknown", 2, valueOfAllBut(Nets.AND, 1, 1, true));
    }

    // "an or is 1 if one is 1"
    private static void orIs1IfOneFeedIs() {
        for (int odd = 0; odd < 5; odd++) {
            Check.due("or, 1 alone at " + odd, 1, valueOfAllBut(Nets.OR, 5, odd, false));
            Check.due("or, 1 among unknowns at " + odd, 1, valueOfAllBut(Nets.OR, 5, odd, true));
        }
        Check.due("or, no 1", 0, valueOfAllBut(Nets.OR, 5, 5, false));
        Check.due("or, unknowns alone", 2, valueOfAllBut(Nets.OR, 5, 5, true));
        Check.due("or, one feed, 1", 1, valueOfAllBut(Nets.OR, 1, 0, false));
        Check.due("or, one feed, 0", 0, valueOfAllBut(Nets.OR, 1, 1, false));
        Check.due("or, one feed, unknown", 2, valueOfAllBut(Nets.OR, 1, 1, true));
    }

    private static int valueWithOneUnknown(int sort, int feeds, int odd) {
        CycleCutter x = new CycleCutter();
        int unknown = Nets.unknownOf(x);
        int rest = x.gate(sort);
        int gate = x.gate(sort);
        for (int i = 0; i < feeds; i++) {
            x.feed(gate, i == odd ? unknown : rest, false);
        }
        return x.value(gate, 255);
    }

    // "1 if all are 1": one unknown is one too many
    private static void andIs1OnlyIfAllAre() {
        for (int odd = 0; odd < 4; odd++) {
            Check.due("and, unknown at " + odd, 2, valueWithOneUnknown(Nets.AND, 4, odd));
        }
        Check.due("and, all 1", 1, valueWithOneUnknown(Nets.AND, 4, 4));
    }

    // "0 if all are 0": one unknown is one too many
    private static void orIs0OnlyIfAllAre() {
        for (int odd = 0; odd < 4; odd++) {
            Check.due("or, unknown at " + odd, 2, valueWithOneUnknown(Nets.OR, 4, odd));
        }
        Check.due("or, all 0", 0, valueWithOneUnknown(Nets.OR, 4, 4));
    }

    // "a feed (as it is taken)": what is unknown stays so, negated too
    private static void whatIsTakenNegated() {
        CycleCutter x = Nets.withInputs(1);
        int unknown = Nets.unknownOf(x);
        for (int sort : new int[] {Nets.AND, Nets.OR}) {
            int of = Nets.gateOf(x, sort, 0, true, 0, true);
            Check.due(sort + " of not 0", 1, x.value(of, 127));
            Check.due(sort + " of not 1", 0, x.value(of, 128));
            int not = x.gate(sort);
            x.feed(not, unknown, true);
            Check.due(sort + " of not unknown", 2, x.value(not, 0));
            int both = Nets.gateOf(x, sort, unknown, false, unknown, true);
            Check.due(sort + " of unknown and not unknown", 2, x.value(both, 0));
            int known = Nets.gateOf(x, sort, 0, false, 0, true);
            Check.due(sort + " of 1 and not 1", sort == Nets.AND ? 0 : 1, x.value(known, 128));
        }
    }

    // "again and again, till nothing more does": against the order of the gates, as far as can be
    private static void settlesThroughAllGates() {
        CycleCutter x = new CycleCutter();
        for (int gate = 0; gate < 119; gate++) {
            x.gate(gate % 2 == 0 ? Nets.AND : Nets.OR);
        }
        int input = x.gate(Nets.INPUT);
        for (int gate = 0; gate < 119; gate++) {
            x.feed(gate, gate + 1, false);
        }
        Check.due("the last gate", 119, input);
        Check.due("the farthest on 127", 0, x.value(0, 127));
        Check.due("the farthest on 128", 1, x.value(0, 128));
        x.output(0);
        Check.due("lay()", 2, x.lay());
        Check.due("run on 127", 0, x.run(0, 127));
        Check.due("run on 128", 1, x.run(0, 128));
        Check.due("known", 256, x.known(0));
    }

    // The same with one gate more in the row, as the last one is known without any input
    private static void settlesThrough120Gates() {
        for (int last : new int[] {Nets.AND, Nets.OR}) {
            CycleCutter x = new CycleCutter();
            Nets.addGates(x, Nets.AND, 119);
            x.gate(last);
            for (int gate = 0; gate < 119; gate++) {
                x.feed(gate, gate + 1, false);
            }
            Check.due("the 120th from " + last, last == Nets.AND ? 1 : 0, x.value(0, 0));
            Check.due("the 120th from " + last, last == Nets.AND ? 1 : 0, x.value(0, 255));
        }
    }

    // The same round a cycle of 119 gates, which the input cuts on one side of its boundary
    private static void settlesThroughAllGatesOfACycle() {
        CycleCutter x = new CycleCutter();
        Nets.addGates(x, Nets.AND, 119);
        int input = x.gate(Nets.INPUT);
        for (int gate = 0; gate < 118; gate++) {
            x.feed(gate, gate + 1, false);
        }
        x.feed(118, 0, false);
        x.feed(118, input, false);
        Check.due("the farthest, cut", 0, x.value(0, 127));
        Check.due("the nearest, cut", 0, x.value(118, 0));
        Check.due("the farthest, not cut", 2, x.value(0, 128));
        Check.due("the nearest, not cut", 2, x.value(118, 255));
        x.output(0);
        Check.due("lay(): LOW alone", 1, x.lay());
        Check.due("known", 128, x.known(0));
        Check.due("doubt(0)", 128, x.doubt(0));
    }

    // Promise 13: "as the net is now": what was known before a feed came is found anew
    private static void valueAsTheNetIsNow() {
        CycleCutter x = new CycleCutter();
        int and = x.gate(Nets.AND);
        int or = x.gate(Nets.OR);
        Check.due("and without feeds", 1, x.value(and, 0));
        Check.due("or without feeds", 0, x.value(or, 0));
        x.feed(and, and, false);
        x.feed(or, or, false);
        Check.due("and by itself", 2, x.value(and, 0));
        Check.due("or by itself", 2, x.value(or, 0));
        x.feed(and, x.gate(Nets.OR), false);
        x.feed(or, x.gate(Nets.AND), false);
        Check.due("and by itself and 0", 0, x.value(and, 0));
        Check.due("or by itself and 1", 1, x.value(or, 0));
    }

    // "all begin as unknown"
    private static void aCycleThatNothingDecidesStaysUnknown() {
        CycleCutter x = new CycleCutter();
        int a = x.gate(Nets.AND);
        int b = x.gate(Nets.OR);
        x.feed(a, b, false);
        x.feed(b, a, false);
        Check.due("and in a cycle", 2, x.value(a, 0));
        Check.due("or in a cycle", 2, x.value(b, 255));
        x.feed(a, b, true);
        Check.due("and of a gate and its negation in a cycle", 2, x.value(a, 0));
        int one = x.gate(Nets.AND);
        x.feed(b, one, false);
        Check.due("or, decided", 1, x.value(b, 0));
        Check.due("and, decided by it", 0, x.value(a, 0));
    }

    // "An object is used for at most 512 calls after it has been made"
    private static void the512thCallIsAnswered() {
        CycleCutter x = Nets.withInputs(8);
        int and = Nets.gateOfFirst(x, Nets.AND, 8);
        x.output(and);
        for (int call = 19; call <= 506; call++) {
            Check.due("lay() as call " + call, 16, x.lay());
        }
        Check.due("call 507", 1, x.value(and, 255));
        Check.due("call 508", 1, x.run(0, 255));
        Check.due("call 509", 16, x.way(0, 255));
        Check.due("call 510", 9, x.feed(and, and, false));
        Check.due("call 511", 8, x.lay());
        Check.due("call 512", 255, x.doubt(0));
    }
}
