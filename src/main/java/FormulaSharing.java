/**
 * A secret shared among eight parties by a formula of thresholds.
 *
 * Every gate splits its number among its children by a random polynomial modulo 251 of a degree one below
 * the threshold (Shamir's scheme), so that in the end only the leaves hold numbers: these are the shares.
 * The scheme is linear; therefore adding, scaling and refreshing work leaf by leaf.
 */
public final class FormulaSharing {
    public static final int BAD_PARTY = -1;
    public static final int BAD_GATE = -2;
    public static final int FULL = -3;
    public static final int STACK_HIGH = -4;
    public static final int STACK_LOW = -5;
    public static final int UNFINISHED = -6;
    public static final int BAD_SECRET = -7;
    public static final int NOT_SHARED = -8;
    public static final int REFUSED = -9;

    private static final int MODULUS = 251;
    private static final int PARTIES = 8;
    private static final int SETS = 256;
    private static final int MOST_NODES = 24;
    private static final int MOST_FORMULAS = 6;
    private static final int MOST_CHILDREN = 5;
    private static final int NONE = -1;

    // The nodes stand in postfix order, so children come before their gate. Between two calls of clear they
    // are only added to: the formula shared last is always the first sharedNodes of them, and needs no copy.
    private final int[] partyOf = new int[MOST_NODES];
    private final int[] threshold = new int[MOST_NODES];
    private final int[] parent = new int[MOST_NODES];
    private final int[] place = new int[MOST_NODES];
    private int nodes = 0;

    private final int[] stack = new int[MOST_FORMULAS];
    private int height = 0;

    // Only the entries of leaves are used; a leaf's share belongs to the leaf's party. 0 nodes: nothing shared.
    private final int[] shares = new int[MOST_NODES];
    private int sharedNodes = 0;

    // Room to work in; nothing in it is carried from one call to the next.
    private final int[] dealt = new int[MOST_NODES];
    private final int[] weight = new int[MOST_NODES];
    private final boolean[] fulfilled = new boolean[MOST_NODES];

    private long randomState;

    public FormulaSharing(int noise) {
        randomState = noise;
    }

    public int leaf(int party) {
        if (party < 0 || party >= PARTIES) {
            return BAD_PARTY;
        }
        if (nodes >= MOST_NODES) {
            return FULL;
        }
        if (height >= MOST_FORMULAS) {
            return STACK_HIGH;
        }
        pushNode(party, NONE);
        return height;
    }

    public int gate(int k, int n) {
        if (n < 1 || n > MOST_CHILDREN || k < 1 || k > n) {
            return BAD_GATE;
        }
        if (nodes >= MOST_NODES) {
            return FULL;
        }
        if (height < n) {
            return STACK_LOW;
        }
        takeChildren(n);
        pushNode(NONE, k);
        return height;
    }

    public void clear() {
        height = 0;
        nodes = 0;
        forgetShares();
    }

    public int share(int secret) {
        if (height != 1) {
            return UNFINISHED;
        }
        if (!isSecret(secret)) {
            return BAD_SECRET;
        }
        forgetShares();
        sharedNodes = nodes;
        dealOntoShares(secret);
        return 0;
    }

    public int add(int more) {
        if (!isSecret(more)) {
            return BAD_SECRET;
        }
        if (sharedNodes == 0) {
            return NOT_SHARED;
        }
        dealOntoShares(more);
        return 0;
    }

    public int scale(int factor) {
        if (!isSecret(factor)) {
            return BAD_SECRET;
        }
        if (sharedNodes == 0) {
            return NOT_SHARED;
        }
        for (int node = 0; node < sharedNodes; node++) {
            shares[node] = shares[node] * factor % MODULUS;
        }
        return 0;
    }

    public int refresh() {
        if (sharedNodes == 0) {
            return NOT_SHARED;
        }
        // Shares of 0 added to the old ones: every share is random anew, and the secret is never put together.
        dealOntoShares(0);
        return 0;
    }

    public int open(int mask) {
        if (sharedNodes == 0) {
            return NOT_SHARED;
        }
        if (!fulfils(mask)) {
            return REFUSED;
        }
        return putTogether();
    }

    public int qualified() {
        if (sharedNodes == 0) {
            return NOT_SHARED;
        }
        int count = 0;
        for (int set = 0; set < SETS; set++) {
            if (fulfils(set)) {
                count++;
            }
        }
        return count;
    }

    public boolean minimal(int mask) {
        if (sharedNodes == 0 || !fulfils(mask)) {
            return false;
        }
        for (int party = 0; party < PARTIES; party++) {
            if (has(mask, party) && fulfils(mask & ~(1 << party))) {
                return false;
            }
        }
        return true;
    }

    public int fewest() {
        if (sharedNodes == 0) {
            return NOT_SHARED;
        }
        // No gate asks for more children than it has, so at the worst all parties together fulfil the formula.
        int least = PARTIES;
        for (int set = 0; set < SETS; set++) {
            int size = sizeOf(set);
            if (size < least && fulfils(set)) {
                least = size;
            }
        }
        return least;
    }

    public int needed() {
        if (sharedNodes == 0) {
            return NOT_SHARED;
        }
        int common = SETS - 1;
        for (int set = 0; set < SETS; set++) {
            if (fulfils(set)) {
                common = common & set;
            }
        }
        return sizeOf(common);
    }

    private void pushNode(int party, int k) {
        partyOf[nodes] = party;
        threshold[nodes] = k;
        parent[nodes] = NONE;
        place[nodes] = NONE;
        stack[height] = nodes;
        nodes++;
        height++;
    }

    /** Takes the n formulas on top of the stack for the gate that is pushed next. */
    private void takeChildren(int n) {
        height = height - n;
        for (int i = 0; i < n; i++) {
            int child = stack[height + i];
            parent[child] = nodes;
            // Places begin at 1: the polynomial's value at 0 is the number that is being split.
            place[child] = i + 1;
        }
    }

    private void forgetShares() {
        sharedNodes = 0;
        for (int node = 0; node < MOST_NODES; node++) {
            shares[node] = 0;
        }
    }

    /** Shares a number by the shared formula, and adds its shares to those that are there. */
    private void dealOntoShares(int number) {
        dealt[sharedNodes - 1] = number;
        for (int node = sharedNodes - 1; node >= 0; node--) {
            if (isLeaf(node)) {
                shares[node] = (shares[node] + dealt[node]) % MODULUS;
            } else {
                split(node);
            }
            // A secret left in the working room could be read without the shares.
            dealt[node] = 0;
        }
    }

    /** Deals a gate's number to its children: each gets the value of one random polynomial at its place. */
    private void split(int top) {
        for (int child = 0; child < top; child++) {
            if (parent[child] == top) {
                dealt[child] = dealt[top];
            }
        }
        for (int degree = 1; degree < threshold[top]; degree++) {
            addTerm(top, degree);
        }
    }

    private void addTerm(int top, int degree) {
        int coefficient = drawNumber();
        for (int child = 0; child < top; child++) {
            if (parent[child] == top) {
                int term = coefficient * power(place[child], degree) % MODULUS;
                dealt[child] = (dealt[child] + term) % MODULUS;
            }
        }
    }

    /** Whether a set fulfils the shared formula; notes the same for every node of it. */
    private boolean fulfils(int mask) {
        boolean met = false;
        for (int node = 0; node < sharedNodes; node++) {
            if (isLeaf(node)) {
                met = has(mask, partyOf[node]);
            } else {
                met = countFulfilled(node) >= threshold[node];
            }
            fulfilled[node] = met;
        }
        // The formula's own top stands last in postfix order.
        return met;
    }

    private int countFulfilled(int top) {
        int count = 0;
        for (int child = 0; child < top; child++) {
            if (parent[child] == top && fulfilled[child]) {
                count++;
            }
        }
        return count;
    }

    /**
     * The secret, from the shares of the set that fulfils was asked about last. Interpolation is linear, so the
     * secret is a weighted sum of shares; the weights go from the top down, and are 0 outside the set.
     */
    private int putTogether() {
        int sum = 0;
        weight[sharedNodes - 1] = 1;
        for (int node = sharedNodes - 1; node >= 0; node--) {
            if (!isLeaf(node)) {
                weighChildren(node);
            } else if (weight[node] != 0) {
                sum = (sum + weight[node] * shares[node]) % MODULUS;
            }
        }
        return sum;
    }

    private void weighChildren(int top) {
        int chosen = choosePlaces(top);
        for (int child = 0; child < top; child++) {
            if (parent[child] == top) {
                weight[child] = weight[top] * weightAtZero(chosen, place[child]) % MODULUS;
            }
        }
    }

    /** The places, as bits, of as many fulfilled children as the threshold asks for. */
    private int choosePlaces(int top) {
        int chosen = 0;
        int count = 0;
        for (int child = 0; child < top; child++) {
            if (parent[child] == top && fulfilled[child] && count < threshold[top]) {
                chosen = chosen | (1 << place[child]);
                count++;
            }
        }
        return chosen;
    }

    /** Lagrange's weight of the value at x, for the value at 0 of the polynomial through the chosen places. */
    private static int weightAtZero(int chosen, int x) {
        if (!has(chosen, x)) {
            return 0;
        }
        int above = 1;
        int below = 1;
        for (int other = 1; other <= MOST_CHILDREN; other++) {
            if (other != x && has(chosen, other)) {
                above = above * other % MODULUS;
                below = below * (other - x + MODULUS) % MODULUS;
            }
        }
        // Fermat: the modulus is prime, so this power of a number other than 0 is its inverse.
        int inverse = power(below, MODULUS - 2);
        return above * inverse % MODULUS;
    }

    private static int power(int base, int exponent) {
        int product = 1;
        for (int i = 0; i < exponent; i++) {
            product = product * base % MODULUS;
        }
        return product;
    }

    private int drawNumber() {
        // SplitMix64: its mixing keeps objects of neighbouring noise from drawing kindred numbers.
        randomState = randomState + 0x9E3779B97F4A7C15L;
        long mixed = randomState;
        mixed = (mixed ^ (mixed >>> 30)) * 0xBF58476D1CE4E5B9L;
        mixed = (mixed ^ (mixed >>> 27)) * 0x94D049BB133111EBL;
        mixed = mixed ^ (mixed >>> 31);
        return (int) ((mixed >>> 1) % MODULUS);
    }

    private boolean isLeaf(int node) {
        return partyOf[node] != NONE;
    }

    private static boolean isSecret(int number) {
        return number >= 0 && number < MODULUS;
    }

    private static boolean has(int bits, int position) {
        return ((bits >> position) & 1) == 1;
    }

    private static int sizeOf(int set) {
        int size = 0;
        for (int party = 0; party < PARTIES; party++) {
            if (has(set, party)) {
                size++;
            }
        }
        return size;
    }
}
