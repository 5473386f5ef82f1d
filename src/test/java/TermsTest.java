/**
 * "What it is" and "Terms", sentence by sentence in the document's order: above each test stands
 * the whole sentence. Their edges are looked at in the boundary tests.
 */
public final class TermsTest {
    private static final int[] EDGES = {0, 1, 63, 64, 127, 128, 191, 192, 254, 255};

    public static void main(String[] args) {
        aNetWithCyclesBecomesOneWithoutAny();
        anObjectIsUsedFor512Calls();
        gatesHaveNumbersAndSorts();
        andsAndOrsHaveFeeds();
        outputsAreNamedAndNumbered();
        valuesAre0And1And2();
        whatBecomesKnownOnAChoice();
        twoFunctionsBelongToAnOutput();
        aFunctionHasOneMultiplexerAtItsFirstInput();
        aFunctionHasItsMultiplexerOnce();
        Check.end();
    }

    /** Input 0 sets, input 1 holds: gate 2 is the and, gate 3 the or of a cycle of both. */
    private static CycleCutter latch() {
        CycleCutter x = Nets.withInputs(2);
        x.gate(Nets.AND);
        x.gate(Nets.OR);
        x.feed(2, 1, false);
        x.feed(2, 3, false);
        x.feed(3, 0, false);
        x.feed(3, 2, false);
        return x;
    }

    /** The majority of inputs 0, 1 and 2; the and and the or of 1 and 2 are gates 3 and 4. */
    private static int majorityOf(CycleCutter x) {
        int both = Nets.gateOf(x, Nets.AND, 1, false, 2, false);
        int some = Nets.gateOf(x, Nets.OR, 1, false, 2, false);
        int more = Nets.gateOf(x, Nets.AND, 0, false, some, false);
        return Nets.gateOf(x, Nets.OR, both, false, more, false);
    }

    /** Eight gates in a ring, each fed by the one before and by an input. */
    private static CycleCutter ring() {
        CycleCutter x = Nets.withInputs(8);
        for (int k = 0; k < 8; k++) {
            x.gate(k % 3 == 0 ? Nets.AND : Nets.OR);
        }
        for (int k = 0; k < 8; k++) {
            x.feed(8 + k, 8 + (k + 7) % 8, k % 2 == 0);
            x.feed(8 + k, k, k % 4 == 1);
            x.output(8 + k);
        }
        return x;
    }

    // "A net of gates with cycles becomes one without any: what each output settles at, on every
    // choice of the inputs, is found for all choices, and laid out anew as multiplexers, as few as
    // can be, that are run through once."
    private static void aNetWithCyclesBecomesOneWithoutAny() {
        boolean[] seen = new boolean[3];
        for (int k = 0; k < 8; k++) {
            CycleCutter asNet = ring();
            CycleCutter asLaidOut = ring();
            asLaidOut.lay();
            for (int choice = 0; choice < 256; choice++) {
                int value = asNet.value(8 + k, choice);
                Check.due("run(" + k + ", " + choice + ")", value, asLaidOut.run(k, choice));
                seen[value] = true;
            }
        }
        Check.due("0 is seen", 1, seen[0] ? 1 : 0);
        Check.due("1 is seen", 1, seen[1] ? 1 : 0);
        Check.due("2 is seen", 1, seen[2] ? 1 : 0);
        CycleCutter x = latch();
        x.output(3);
        Check.due("lay() of the latch", 3, x.lay());
        Check.due("longest row of the latch", 2, x.count(6));
    }

    // "An object is used for at most 512 calls after it has been made; what later calls answer is
    // free."
    private static void anObjectIsUsedFor512Calls() {
        CycleCutter x = latch();
        x.output(3);
        x.lay();
        for (int call = 11; call <= 512; call++) {
            Check.due("run(0, 64) as call " + call, 2, x.run(0, 64));
        }
    }

    // "GATES have the numbers 0, 1, .. (at most 120), each a SORT: 0 an INPUT (at most 8, numbered
    // 0, 1, .. as they come), 2 AND, 3 OR."
    private static void gatesHaveNumbersAndSorts() {
        CycleCutter x = new CycleCutter();
        int[] sorts = {Nets.AND, Nets.INPUT, Nets.OR, Nets.INPUT};
        for (int gate = 0; gate < 120; gate++) {
            int sort = gate < 32 ? sorts[gate % 4] : Nets.OR;
            boolean isNinth = sort == Nets.INPUT && x.count(2) == 8;
            Check.due("gate " + gate, gate, x.gate(isNinth ? Nets.AND : sort));
        }
        Check.due("gate 120", -1, x.gate(Nets.OR));
        Check.due("gates", 120, x.count(0));
        Check.due("inputs", 8, x.count(2));
        for (int k = 0; k < 8; k++) {
            Check.due("input " + k + " on its bit", 1, x.value(2 * k + 1, 128 >> k));
            Check.due("input " + k + " on all others", 0, x.value(2 * k + 1, 255 - (128 >> k)));
        }
        Check.due("gate 4 is an and", 1, x.value(4, 0));
        Check.due("gate 6 is an or", 0, x.value(6, 0));
    }

    // "Ands and ors have FEEDS, other gates or themselves, each taken as it is or NEGATED, at most
    // 500 in all."
    private static void andsAndOrsHaveFeeds() {
        CycleCutter x = Nets.withInputs(1);
        int and = x.gate(Nets.AND);
        int or = x.gate(Nets.OR);
        Check.due("and by the input", 1, x.feed(and, 0, false));
        Check.due("or by the input, negated", 1, x.feed(or, 0, true));
        Check.due("and on 128", 1, x.value(and, 128));
        Check.due("or on 128", 0, x.value(or, 128));
        Check.due("and by itself", 2, x.feed(and, and, false));
        Check.due("or by itself, negated", 2, x.feed(or, or, true));
        Check.due("and by itself on 128", 2, x.value(and, 128));
        Check.due("or by itself on 128", 2, x.value(or, 128));
        Check.due("or by itself on 0", 1, x.value(or, 0));
        Check.dueThrow("the input by the and", IllegalStateException.class,
                () -> x.feed(0, and, false));
        Nets.addFeeds(x, and, or, 248);
        Nets.addFeeds(x, or, and, 248);
        Check.due("feeds", 500, x.count(1));
        Check.due("one more", -1, x.feed(or, and, false));
    }

    // "OUTPUTS are gates that are named as such, numbered 0, 1, .. (at most 10; a gate may be
    // several)."
    private static void outputsAreNamedAndNumbered() {
        CycleCutter x = latch();
        Check.due("outputs without any named", 0, x.count(3));
        for (int i = 0; i < 10; i++) {
            Check.due("output " + i, i, x.output(3 - i % 4));
        }
        Check.due("output 10", -1, x.output(0));
        x.lay();
        for (int i = 0; i < 10; i++) {
            for (int choice : new int[] {0, 64, 128, 192}) {
                String call = "run(" + i + ", " + choice + ")";
                Check.due(call, x.value(3 - i % 4, choice), x.run(i, choice));
            }
        }
    }

    // "VALUES are 0, 1 and 2 UNKNOWN."
    private static void valuesAre0And1And2() {
        CycleCutter x = latch();
        x.output(3);
        x.lay();
        int[][] want = {{0, 0}, {64, 2}, {128, 1}, {192, 1}};
        for (int[] row : want) {
            Check.due("value on " + row[0], row[1], x.value(3, row[0]));
            Check.due("run on " + row[0], row[1], x.run(0, row[0]));
        }
    }

    // "On a CHOICE (bit 7 - k of it is the value of input k; 0 .. 255, bits of inputs that there
    // are not are passed over) an input has its value; an and is 0 if a feed (as it is taken) is 0,
    // 1 if all are 1 (also without any); an or is 1 if one is 1, 0 if all are 0; all begin as
    // unknown, and what becomes known so by what is known, again and again, till nothing more
    // does, is their value."
    private static void whatBecomesKnownOnAChoice() {
        CycleCutter x = latch();
        int not = x.gate(Nets.AND);
        x.feed(not, 3, true);
        int sure = Nets.gateOf(x, Nets.OR, not, false, 0, true);
        int one = x.gate(Nets.AND);
        int zero = x.gate(Nets.OR);
        int undone = Nets.gateOf(x, Nets.AND, not, false, zero, false);
        for (int choice : EDGES) {
            int set = choice >> 7;
            int hold = (choice >> 6) & 1;
            int or = set == 1 ? 1 : hold == 1 ? 2 : 0;
            String on = " on " + choice;
            Check.due("input 0" + on, set, x.value(0, choice));
            Check.due("input 1" + on, hold, x.value(1, choice));
            Check.due("the and of the latch" + on, hold == 0 ? 0 : or, x.value(2, choice));
            Check.due("the or of the latch" + on, or, x.value(3, choice));
            Check.due("what takes it negated" + on, or == 2 ? 2 : 1 - or, x.value(not, choice));
            Check.due("an or beside the unknown" + on, 1 - set, x.value(sure, choice));
            Check.due("an and without feeds" + on, 1, x.value(one, choice));
            Check.due("an or without feeds" + on, 0, x.value(zero, choice));
            Check.due("an and beside the unknown" + on, 0, x.value(undone, choice));
        }
    }

    // "MULTIPLEXERS: to each output belong two truth functions of choices: where it is 1 (HIGH),
    // and where it is 0 (LOW)."
    private static void twoFunctionsBelongToAnOutput() {
        CycleCutter x = latch();
        int not = x.gate(Nets.OR);
        x.feed(not, 3, true);
        x.output(3);
        x.output(not);
        Check.due("lay()", 3, x.lay());
        Check.due("HIGH of the latch: input 0", 1, x.size(0, true));
        Check.due("LOW of the latch: neither input", 2, x.size(0, false));
        Check.due("HIGH of its negation", 2, x.size(1, true));
        Check.due("LOW of its negation", 1, x.size(1, false));
        Check.due("way where both inputs are 0", 3, x.way(0, 0));
        Check.due("way where input 0 is 1", 2, x.way(0, 128));
    }

    // "A function that is not the same for all choices has one multiplexer, at the first input k on
    // which it depends (it changes with this alone on some choice), which takes, as input k is 0 or
    // 1, what the function is with this fixed: likewise a multiplexer, or a constant."
    private static void aFunctionHasOneMultiplexerAtItsFirstInput() {
        CycleCutter x = Nets.withInputs(3);
        x.output(majorityOf(x));
        Check.due("lay() of the majority", 8, x.lay());
        Check.due("HIGH", 4, x.size(0, true));
        Check.due("LOW", 4, x.size(0, false));
        Check.due("at(0)", 2, x.at(0));
        Check.due("at(1)", 4, x.at(1));
        Check.due("at(2)", 2, x.at(2));
        Check.due("at(3)", 0, x.at(3));
        for (int choice : EDGES) {
            int first = choice >> 7;
            int second = (choice >> 6) & 1;
            int third = (choice >> 5) & 1;
            String on = " on " + choice;
            Check.due("run" + on, first + second + third >= 2 ? 1 : 0, x.run(0, choice));
            Check.due("way" + on, first == second ? 4 : 6, x.way(0, choice));
        }
        CycleCutter constant = Nets.withInputs(3);
        constant.output(Nets.gateOf(constant, Nets.OR, 0, false, 0, true));
        Check.due("lay() of what is the same for all choices", 0, constant.lay());
    }

    // "A function has its multiplexer once, however often it comes up."
    private static void aFunctionHasItsMultiplexerOnce() {
        CycleCutter x = Nets.withInputs(3);
        int majority = majorityOf(x);
        int not = x.gate(Nets.AND);
        x.feed(not, majority, true);
        for (int gate : new int[] {majority, not, majority, 3, 4, 2}) {
            x.output(gate);
            Check.due("lay() with gate " + gate, 8, x.lay());
        }
        x.output(1);
        Check.due("lay() with a function that has not come up", 10, x.lay());
        Check.due("multiplexers", 10, x.count(5));
        Check.due("HIGH of the majority", 4, x.size(0, true));
    }
}
