import java.util.ArrayList;
import java.util.HashMap;
import java.util.HashSet;
import java.util.List;
import java.util.Map;
import java.util.Random;
import java.util.Set;

/**
 * Runs of 512 calls, always the same ones, on CycleCutter and on a plain model of the document:
 * all answers must be the same.
 */
public final class ModelTest {
    public static void main(String[] args) {
        for (int seed = 0; seed < 150; seed++) {
            new Run(seed).goDeep();
        }
        for (int seed = 1000; seed < 1020; seed++) {
            new Run(seed).goWide();
        }
        Check.end();
    }

    /** Calls that first build a net and then mostly ask. */
    private static final class Run {
        private final int seed;
        private final Random random;
        private final CycleCutter real = new CycleCutter();
        private final Model model = new Model();

        Run(int seed) {
            this.seed = seed;
            this.random = new Random(seed);
        }

        void goDeep() {
            int inputs = random.nextInt(10);
            int gates = 2 + random.nextInt(seed % 3 == 0 ? 120 : 20);
            int cycles = random.nextInt(3) * 8;
            int calls = 0;
            for (int i = 0; i < inputs; i++, calls++) {
                both("gate", 0, 0, false);
            }
            for (int i = 0; i < gates && calls < 430; i++) {
                both("gate", 2 + random.nextInt(2), 0, false);
                int gate = model.sorts.size() - 1;
                for (int k = 0; k < 2; k++) {
                    both("feed", gate, from(gate, cycles), random.nextBoolean());
                }
                calls += 3;
            }
            for (int i = 0; i < 11; i++, calls++) {
                both("output", Math.max(0, model.sorts.size() - 1 - random.nextInt(12)), 0, false);
            }
            layAndAsk(calls);
        }

        // Ten ors of 16 of 40 ands of 4 inputs each: some 500 multiplexers.
        void goWide() {
            for (int i = 0; i < 8; i++) {
                both("gate", 0, 0, false);
            }
            for (int and = 8; and < 48; and++) {
                both("gate", 2, 0, false);
                for (int k = 0; k < 4; k++) {
                    both("feed", and, random.nextInt(8), random.nextBoolean());
                }
            }
            for (int or = 48; or < 58; or++) {
                both("gate", 3, 0, false);
                for (int k = 0; k < 16; k++) {
                    boolean closesCycle = random.nextInt(100) < seed % 2;
                    both("feed", or, closesCycle ? or : 8 + random.nextInt(40), false);
                }
                both("output", or, 0, false);
            }
            layAndAsk(388);
        }

        private void layAndAsk(int calls) {
            both("lay", 0, 0, false);
            for (int made = calls + 1; made < 512; made++) {
                any();
            }
        }

        // Mostly a late gate, so that functions grow; now and then one that closes a cycle.
        private int from(int gate, int cycles) {
            if (random.nextInt(100) < cycles) {
                return random.nextInt(gate + 1);
            }
            int back = random.nextBoolean() ? 8 : gate;
            return Math.max(0, gate - 1 - random.nextInt(Math.max(1, back)));
        }

        private void any() {
            int gates = model.sorts.size();
            int gate = random.nextInt(gates + 3) - 1;
            int choice = random.nextInt(40) == 0 ? 256 : random.nextInt(257) - 1;
            int output = random.nextInt(13) - 1;
            boolean flag = random.nextBoolean();
            switch (random.nextInt(30)) {
                case 0 -> both("gate", random.nextInt(6) - 1, 0, false);
                case 1, 2 -> both("feed", gate, random.nextInt(gates + 3) - 1, flag);
                case 3 -> both("output", gate, 0, false);
                case 4 -> both(random.nextInt(20) == 0 ? "clear" : "lay", 0, 0, false);
                case 5, 6, 7, 8, 9, 10 -> both("run", output, choice, false);
                case 11, 12, 13 -> both("way", output, choice, false);
                case 14, 15 -> both("at", random.nextInt(11) - 1, 0, false);
                case 16, 17, 18 -> both("size", output, 0, flag);
                case 19, 20 -> both("known", output, 0, false);
                case 21, 22 -> both("doubt", choice, 0, false);
                case 23, 24, 25, 26 -> both("value", gate, choice, false);
                default -> both("count", random.nextInt(9) - 1, 0, false);
            }
        }

        private void both(String name, int a, int b, boolean flag) {
            String want = Check.answerOf(() -> onModel(name, a, b, flag));
            String got = Check.answerOf(() -> onReal(name, a, b, flag));
            Check.due("seed " + seed + ": " + name + " " + a + " " + b + " " + flag, want, got);
        }

        private int onReal(String name, int a, int b, boolean flag) {
            return switch (name) {
                case "gate" -> real.gate(a);
                case "feed" -> real.feed(a, b, flag);
                case "output" -> real.output(a);
                case "clear" -> real.clear();
                case "lay" -> real.lay();
                case "run" -> real.run(a, b);
                case "way" -> real.way(a, b);
                case "at" -> real.at(a);
                case "size" -> real.size(a, flag);
                case "known" -> real.known(a);
                case "doubt" -> real.doubt(a);
                case "value" -> real.value(a, b);
                default -> real.count(a);
            };
        }

        private int onModel(String name, int a, int b, boolean flag) {
            return switch (name) {
                case "gate" -> model.gate(a);
                case "feed" -> model.feed(a, b, flag);
                case "output" -> model.output(a);
                case "clear" -> model.clear();
                case "lay" -> model.lay();
                case "run" -> model.run(a, b);
                case "way" -> model.way(a, b);
                case "at" -> model.at(a);
                case "size" -> model.reach(model.laid(a, flag)).size();
                case "known" -> model.known(a);
                case "doubt" -> model.doubt(a);
                case "value" -> model.value(a, b);
                default -> model.count(a);
            };
        }
    }

    private record Feed(int from, boolean negated) {
    }

    /** A function is a text of 256 characters, 0 or 1, one for each choice. */
    private static final class Model {
        private final List<Integer> sorts = new ArrayList<>();
        private final List<Integer> inputOf = new ArrayList<>();
        private final List<List<Feed>> feeds = new ArrayList<>();
        private final List<Integer> outputs = new ArrayList<>();
        private final List<String> highs = new ArrayList<>();
        private final List<String> lows = new ArrayList<>();
        private int[][] values = null;

        int gate(int sort) {
            if (sort != 0 && sort != 2 && sort != 3) {
                throw new IllegalArgumentException();
            }
            int inputs = count(2);
            if (sorts.size() == 120 || (sort == 0 && inputs == 8)) {
                return -1;
            }
            values = null;
            sorts.add(sort);
            inputOf.add(sort == 0 ? inputs : -1);
            feeds.add(new ArrayList<>());
            return sorts.size() - 1;
        }

        int feed(int to, int from, boolean negated) {
            needGate(to);
            needGate(from);
            if (sorts.get(to) == 0) {
                throw new IllegalStateException();
            }
            if (count(1) == 500) {
                return -1;
            }
            values = null;
            feeds.get(to).add(new Feed(from, negated));
            return feeds.get(to).size();
        }

        int output(int gate) {
            needGate(gate);
            if (outputs.size() == 10) {
                return -1;
            }
            outputs.add(gate);
            return outputs.size() - 1;
        }

        int clear() {
            int gates = sorts.size();
            values = null;
            sorts.clear();
            inputOf.clear();
            feeds.clear();
            outputs.clear();
            highs.clear();
            lows.clear();
            return gates;
        }

        int lay() {
            highs.clear();
            lows.clear();
            for (int gate : outputs) {
                StringBuilder high = new StringBuilder();
                StringBuilder low = new StringBuilder();
                for (int choice = 0; choice < 256; choice++) {
                    high.append(value(gate, choice) == 1 ? '1' : '0');
                    low.append(value(gate, choice) == 0 ? '1' : '0');
                }
                highs.add(high.toString());
                lows.add(low.toString());
            }
            return count(5);
        }

        int run(int output, int choice) {
            needChoice(choice);
            if (laid(output, true).charAt(choice) == '1') {
                return 1;
            }
            return laid(output, false).charAt(choice) == '1' ? 0 : 2;
        }

        int way(int output, int choice) {
            needChoice(choice);
            return steps(laid(output, true), choice) + steps(laid(output, false), choice);
        }

        private int steps(String function, int choice) {
            int k = firstInput(function);
            return k < 0 ? 0 : 1 + steps(fix(function, k, (choice >> (7 - k)) & 1), choice);
        }

        int at(int k) {
            int sum = 0;
            for (String function : all()) {
                if (firstInput(function) == k) {
                    sum++;
                }
            }
            return sum;
        }

        int known(int output) {
            int sum = 0;
            laid(output, true);
            for (int choice = 0; choice < 256; choice++) {
                if (run(output, choice) != 2) {
                    sum++;
                }
            }
            return sum;
        }

        int doubt(int least) {
            needChoice(least);
            for (int choice = least; choice < 256; choice++) {
                for (int output = 0; output < highs.size(); output++) {
                    if (run(output, choice) == 2) {
                        return choice;
                    }
                }
            }
            return -1;
        }

        int value(int gate, int choice) {
            needGate(gate);
            needChoice(choice);
            if (values == null) {
                values = new int[256][];
            }
            if (values[choice] == null) {
                values[choice] = settle(choice);
            }
            return values[choice][gate];
        }

        int count(int what) {
            int sum = 0;
            switch (what) {
                case 0:
                    return sorts.size();
                case 1:
                    for (List<Feed> some : feeds) {
                        sum += some.size();
                    }
                    return sum;
                case 2:
                    for (int sort : sorts) {
                        sum += sort == 0 ? 1 : 0;
                    }
                    return sum;
                case 3:
                    return outputs.size();
                case 4:
                    return highs.size();
                case 5:
                    return all().size();
                case 6:
                    Map<String, Integer> rows = new HashMap<>();
                    for (String function : all()) {
                        sum = Math.max(sum, row(function, rows));
                    }
                    return sum;
                default:
                    return -1;
            }
        }

        private int[] settle(int choice) {
            int[] now = new int[sorts.size()];
            for (int gate = 0; gate < now.length; gate++) {
                now[gate] = sorts.get(gate) == 0 ? (choice >> (7 - inputOf.get(gate))) & 1 : 2;
            }
            boolean more = true;
            while (more) {
                more = false;
                for (int gate = 0; gate < now.length; gate++) {
                    if (now[gate] == 2 && work(gate, now) != 2) {
                        now[gate] = work(gate, now);
                        more = true;
                    }
                }
            }
            return now;
        }

        private int work(int gate, int[] now) {
            int decides = sorts.get(gate) == 2 ? 0 : 1;
            boolean unsure = false;
            for (Feed feed : feeds.get(gate)) {
                int taken = now[feed.from()];
                if (feed.negated() && taken != 2) {
                    taken = 1 - taken;
                }
                if (taken == decides) {
                    return decides;
                }
                unsure |= taken == 2;
            }
            return unsure ? 2 : 1 - decides;
        }

        String laid(int output, boolean high) {
            if (output < 0 || output >= highs.size()) {
                throw new IndexOutOfBoundsException();
            }
            return high ? highs.get(output) : lows.get(output);
        }

        Set<String> reach(String root) {
            Set<String> found = new HashSet<>();
            reach(root, found);
            return found;
        }

        private Set<String> all() {
            Set<String> found = new HashSet<>();
            for (int output = 0; output < highs.size(); output++) {
                reach(highs.get(output), found);
                reach(lows.get(output), found);
            }
            return found;
        }

        private void reach(String function, Set<String> found) {
            int k = firstInput(function);
            if (k >= 0 && found.add(function)) {
                reach(fix(function, k, 0), found);
                reach(fix(function, k, 1), found);
            }
        }

        private int row(String function, Map<String, Integer> rows) {
            int k = firstInput(function);
            if (k < 0) {
                return 0;
            }
            Integer had = rows.get(function);
            if (had == null) {
                had = 1 + Math.max(row(fix(function, k, 0), rows), row(fix(function, k, 1), rows));
                rows.put(function, had);
            }
            return had;
        }

        private static int firstInput(String function) {
            for (int k = 0; k < 8; k++) {
                for (int choice = 0; choice < 256; choice++) {
                    if (function.charAt(choice) != function.charAt(choice ^ (128 >> k))) {
                        return k;
                    }
                }
            }
            return -1;
        }

        private static String fix(String function, int k, int bit) {
            StringBuilder fixed = new StringBuilder();
            for (int choice = 0; choice < 256; choice++) {
                int mask = 128 >> k;
                fixed.append(function.charAt(bit == 1 ? choice | mask : choice & ~mask));
            }
            return fixed.toString();
        }

        private void needGate(int gate) {
            if (gate < 0 || gate >= sorts.size()) {
                throw new IndexOutOfBoundsException();
            }
        }

        private static void needChoice(int choice) {
            if (choice < 0 || choice > 255) {
                throw new IndexOutOfBoundsException();
            }
        }
    }
}
