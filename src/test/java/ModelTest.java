import java.util.ArrayDeque;
import java.util.ArrayList;
import java.util.List;
import java.util.Random;

/** Long runs of calls, each answer against a model that keeps the secret as it is and its formulas as trees. */
public final class ModelTest {
    private static final int RUNS = 3000;
    private static final int CALLS = 512;
    private static int wrong = 0;

    private interface Formula {
        boolean metBy(int mask);
    }

    /** The document read as plainly as can be: no shares, no noise. */
    private static final class Model {
        private final ArrayDeque<Formula> stack = new ArrayDeque<>();
        private int nodes = 0;
        private Formula shared = null;
        private int secret = 0;

        int leaf(int party) {
            if (party < 0 || party > 7) return -1;
            if (nodes == 24) return -3;
            if (stack.size() == 6) return -4;
            nodes++;
            stack.push(mask -> (mask >> party & 1) == 1);
            return stack.size();
        }

        int gate(int k, int n) {
            if (n < 1 || n > 5 || k < 1 || k > n) return -2;
            if (nodes == 24) return -3;
            if (stack.size() < n) return -5;
            nodes++;
            List<Formula> taken = new ArrayList<>();
            for (int i = 0; i < n; i++) taken.add(stack.pop());
            stack.push(mask -> taken.stream().filter(f -> f.metBy(mask)).count() >= k);
            return stack.size();
        }

        int clear() {
            stack.clear();
            nodes = 0;
            shared = null;
            return 0;
        }

        int share(int number) {
            if (stack.size() != 1) return -6;
            if (number < 0 || number > 250) return -7;
            shared = stack.peek();
            secret = number;
            return 0;
        }

        int add(int more) {
            if (more < 0 || more > 250) return -7;
            if (shared == null) return -8;
            secret = (secret + more) % 251;
            return 0;
        }

        int scale(int factor) {
            if (factor < 0 || factor > 250) return -7;
            if (shared == null) return -8;
            secret = secret * factor % 251;
            return 0;
        }

        int refresh() {
            return shared == null ? -8 : 0;
        }

        int open(int mask) {
            if (shared == null) return -8;
            return shared.metBy(mask) ? secret : -9;
        }

        int qualified() {
            if (shared == null) return -8;
            int count = 0;
            for (int set = 0; set < 256; set++) count += shared.metBy(set) ? 1 : 0;
            return count;
        }

        int minimal(int mask) {
            if (shared == null || !shared.metBy(mask)) return 0;
            for (int x = 0; x < 8; x++) {
                int less = mask & ~(1 << x);
                if (less != mask && shared.metBy(less)) return 0;
            }
            return 1;
        }

        int fewest() {
            if (shared == null) return -8;
            for (int size = 0; size <= 8; size++) {
                for (int set = 0; set < 256; set++) {
                    if (Integer.bitCount(set) == size && shared.metBy(set)) return size;
                }
            }
            throw new IllegalStateException("a formula that no set fulfils");
        }

        int needed() {
            if (shared == null) return -8;
            int count = 0;
            for (int x = 0; x < 8; x++) {
                boolean always = true;
                for (int set = 0; set < 256; set++) {
                    if (shared.metBy(set) && (set >> x & 1) == 0) always = false;
                }
                count += always ? 1 : 0;
            }
            return count;
        }
    }

    public static void main(String[] args) {
        for (int run = 0; run < RUNS && wrong < 20; run++) {
            oneRun(run);
        }
        System.out.println(wrong == 0 ? RUNS + " runs agree with the model" : wrong + " answers differ from the model");
        if (wrong != 0) {
            System.exit(1);
        }
    }

    private static void oneRun(int run) {
        Random random = new Random(run);
        FormulaSharing x = new FormulaSharing(random.nextInt());
        Model model = new Model();
        // Runs of few parties have many leaves of the same one; rare clears fill the nodes up.
        int parties = 1 + random.nextInt(8);
        int clears = 10 + random.nextInt(100);
        for (int call = 0; call < CALLS; call++) {
            if (random.nextInt(clears) == 0) {
                x.clear();
                model.clear();
            } else {
                oneCall(run, call, random, parties, x, model);
            }
        }
        pastTheLastCall(random, x);
    }

    /** What is answered now is free; but no call may ever throw. */
    private static void pastTheLastCall(Random random, FormulaSharing x) {
        for (int call = 0; call < CALLS; call++) {
            int a = random.nextBoolean() ? random.nextInt(8) : random.nextInt();
            int b = random.nextBoolean() ? random.nextInt(6) : random.nextInt();
            switch (random.nextInt(12)) {
                case 0 -> x.leaf(a);
                case 1 -> x.gate(a, b);
                case 2 -> x.gate(1, b);
                case 3 -> x.share(a);
                case 4 -> x.add(a);
                case 5 -> x.scale(a);
                case 6 -> x.refresh();
                case 7 -> x.open(a);
                case 8 -> x.minimal(a);
                case 9 -> x.clear();
                case 10 -> x.qualified();
                default -> {
                    x.fewest();
                    x.needed();
                }
            }
        }
    }

    private static void oneCall(int run, int call, Random random, int parties, FormulaSharing x, Model model) {
        int a;
        int b;
        switch (random.nextInt(20)) {
            case 0, 1, 2, 3, 4:
                a = oddly(random, random.nextInt(parties), 8);
                due(run, call, "leaf(" + a + ")", x.leaf(a), model.leaf(a));
                break;
            case 5, 6, 7:
                b = oddly(random, 1 + random.nextInt(5), 6);
                a = oddly(random, 1 + random.nextInt(b > 0 && b < 6 ? b : 5), 6);
                due(run, call, "gate(" + a + ", " + b + ")", x.gate(a, b), model.gate(a, b));
                break;
            case 8, 9:
                a = oddly(random, random.nextInt(251), 251);
                due(run, call, "share(" + a + ")", x.share(a), model.share(a));
                break;
            case 10, 11:
                a = oddly(random, random.nextInt(251), 251);
                due(run, call, "add(" + a + ")", x.add(a), model.add(a));
                break;
            case 12:
                a = oddly(random, random.nextInt(251), 251);
                due(run, call, "scale(" + a + ")", x.scale(a), model.scale(a));
                break;
            case 13:
                due(run, call, "refresh()", x.refresh(), model.refresh());
                break;
            case 14, 15, 16:
                a = random.nextInt() & random.nextInt() | random.nextInt();
                due(run, call, "open(" + a + ")", x.open(a), model.open(a));
                break;
            case 17, 18:
                a = random.nextInt() & random.nextInt();
                due(run, call, "minimal(" + a + ")", x.minimal(a) ? 1 : 0, model.minimal(a));
                break;
            default:
                count(run, call, random.nextInt(3), x, model);
        }
    }

    private static void count(int run, int call, int which, FormulaSharing x, Model model) {
        if (which == 0) {
            due(run, call, "qualified()", x.qualified(), model.qualified());
        } else if (which == 1) {
            due(run, call, "fewest()", x.fewest(), model.fewest());
        } else {
            due(run, call, "needed()", x.needed(), model.needed());
        }
    }

    /** Mostly the usual number, at times one at or past the edge, or far away. */
    private static int oddly(Random random, int usual, int past) {
        int[] odd = {-1, 0, past, past - 1, random.nextInt()};
        return random.nextInt(15) == 0 ? odd[random.nextInt(odd.length)] : usual;
    }

    private static void due(int run, int call, String what, int got, int want) {
        if (got != want) {
            wrong++;
            System.out.println("run " + run + ", call " + call + ": " + what + " answered " + got + ", due is " + want);
        }
    }
}
