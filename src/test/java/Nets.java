/** Nets that several tests build, and what can be seen of one; shared by the tests of the project. */
final class Nets {
    static final int INPUT = 0;
    static final int AND = 2;
    static final int OR = 3;

    private Nets() {
    }

    /** Gates 0 .. inputs - 1 are inputs. */
    static CycleCutter withInputs(int inputs) {
        CycleCutter x = new CycleCutter();
        addGates(x, INPUT, inputs);
        return x;
    }

    static void addGates(CycleCutter x, int sort, int gates) {
        for (int i = 0; i < gates; i++) {
            x.gate(sort);
        }
    }

    static void addFeeds(CycleCutter x, int to, int from, int feeds) {
        for (int i = 0; i < feeds; i++) {
            x.feed(to, from, false);
        }
    }

    static int gateOf(CycleCutter x, int sort, int a, boolean p, int b, boolean q) {
        int gate = x.gate(sort);
        x.feed(gate, a, p);
        x.feed(gate, b, q);
        return gate;
    }

    /** A gate that gates 0 .. feeds - 1 feed as they are. */
    static int gateOfFirst(CycleCutter x, int sort, int feeds) {
        int gate = x.gate(sort);
        for (int from = 0; from < feeds; from++) {
            x.feed(gate, from, false);
        }
        return gate;
    }

    static int xorOf(CycleCutter x, int a, int b) {
        int left = gateOf(x, AND, a, false, b, true);
        int right = gateOf(x, AND, a, true, b, false);
        return gateOf(x, OR, left, false, right, false);
    }

    /** Unknown on every choice. */
    static int unknownOf(CycleCutter x) {
        int gate = x.gate(AND);
        x.feed(gate, gate, false);
        return gate;
    }

    /** All seven counts; takes seven calls. */
    static String countsOf(CycleCutter x) {
        StringBuilder counts = new StringBuilder();
        for (int what = 0; what <= 6; what++) {
            counts.append(what == 0 ? "" : " ").append(x.count(what));
        }
        return counts.toString();
    }
}
