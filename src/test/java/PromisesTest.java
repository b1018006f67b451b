/** Each promise of the document in turn: ordinary inputs, the edges that it names, and wrong inputs. */
public final class PromisesTest {
    private static int wrong = 0;
    private static String promise = "";

    public static void main(String[] args) {
        aNewObject();
        noiseChangesNoAnswer();
        leaf();
        gate();
        clear();
        share();
        whatWasSharedStays();
        add();
        scale();
        refresh();
        open();
        openEveryThreshold();
        openNested();
        qualified();
        minimal();
        fewest();
        needed();
        order();
        limits();
        System.out.println(wrong == 0 ? "all promises hold" : wrong + " answers are not as due");
        if (wrong != 0) {
            System.exit(1);
        }
    }

    private static void due(String call, long got, long want) {
        if (got != want) {
            wrong++;
            System.out.println(promise + ": " + call + " answered " + got + ", due is " + want);
        }
    }

    private static void due(String call, boolean got, boolean want) {
        due(call, got ? 1 : 0, want ? 1 : 0);
    }

    /** A new object with one gate of threshold k over the leaves of the parties. */
    private static FormulaSharing gateOver(int k, int... parties) {
        FormulaSharing x = new FormulaSharing(4711);
        for (int party : parties) {
            x.leaf(party);
        }
        x.gate(k, parties.length);
        return x;
    }

    /** (0 and 1) or (at least 2 of 2, 3, 4), not shared yet. */
    private static FormulaSharing twoWays(int noise) {
        FormulaSharing x = new FormulaSharing(noise);
        x.leaf(0);
        x.leaf(1);
        x.gate(2, 2);
        x.leaf(2);
        x.leaf(3);
        x.leaf(4);
        x.gate(2, 3);
        x.gate(1, 2);
        return x;
    }

    /** A new object with 24 nodes and as many formulas on the stack as asked for (1 to 6). */
    private static FormulaSharing full(int formulas) {
        FormulaSharing x = new FormulaSharing(1);
        for (int i = 0; i < formulas; i++) {
            x.leaf(i);
        }
        for (int i = formulas; i < 24; i++) {
            due("gate(1, 1) at node " + i, x.gate(1, 1), formulas);
        }
        return x;
    }

    private static void nothingIsShared(FormulaSharing x) {
        due("open(255)", x.open(255), FormulaSharing.NOT_SHARED);
        due("open(0)", x.open(0), FormulaSharing.NOT_SHARED);
        due("qualified()", x.qualified(), FormulaSharing.NOT_SHARED);
        due("minimal(255)", x.minimal(255), false);
        due("minimal(1)", x.minimal(1), false);
        due("minimal(0)", x.minimal(0), false);
        due("fewest()", x.fewest(), FormulaSharing.NOT_SHARED);
        due("needed()", x.needed(), FormulaSharing.NOT_SHARED);
        due("add(1)", x.add(1), FormulaSharing.NOT_SHARED);
        due("scale(1)", x.scale(1), FormulaSharing.NOT_SHARED);
        due("refresh()", x.refresh(), FormulaSharing.NOT_SHARED);
    }

    private static void aNewObject() {
        promise = "promise 1";
        int[] noises = {0, 1, -1, 250, 251, Integer.MAX_VALUE, Integer.MIN_VALUE};
        for (int noise : noises) {
            FormulaSharing x = new FormulaSharing(noise);
            nothingIsShared(x);
            due("gate(1, 1)", x.gate(1, 1), FormulaSharing.STACK_LOW);
            due("share(0)", x.share(0), FormulaSharing.UNFINISHED);
            due("leaf(0)", x.leaf(0), 1);
            nothingIsShared(x);
        }
    }

    private static void noiseChangesNoAnswer() {
        promise = "promise 1, noise";
        for (int step = -300; step <= 300; step++) {
            int noise = step * 7158278;
            FormulaSharing x = twoWays(noise);
            due("share(77)", x.share(77), 0);
            due("open(3)", x.open(3), 77);
            due("open(12)", x.open(12), 77);
            due("open(20)", x.open(20), 77);
            due("open(24)", x.open(24), 77);
            due("open(31)", x.open(31), 77);
            due("open(5)", x.open(5), FormulaSharing.REFUSED);
            due("add(200)", x.add(200), 0);
            due("open(24)", x.open(24), 26);
        }
    }

    private static void leaf() {
        promise = "promise 2";
        FormulaSharing x = new FormulaSharing(5);
        int[] wrongParties = {-1, 8, 9, 251, Integer.MAX_VALUE, Integer.MIN_VALUE};
        for (int party : wrongParties) {
            due("leaf(" + party + ")", x.leaf(party), FormulaSharing.BAD_PARTY);
        }
        for (int i = 1; i <= 6; i++) {
            due("leaf, number " + i, x.leaf(i == 1 ? 0 : 7), i);
        }
        due("leaf, number 7", x.leaf(3), FormulaSharing.STACK_HIGH);
        due("gate(5, 5) after the refusal", x.gate(5, 5), 2);
        due("gate(2, 2)", x.gate(2, 2), 1);
        due("share(9)", x.share(9), 0);
        due("open(129)", x.open(129), 9);
        due("open(128)", x.open(128), FormulaSharing.REFUSED);
        for (int party = 0; party < 8; party++) {
            FormulaSharing alone = new FormulaSharing(party);
            due("leaf(" + party + ")", alone.leaf(party), 1);
            due("share(250)", alone.share(250), 0);
            due("open", alone.open(1 << party), 250);
            due("open of the others", alone.open(255 ^ (1 << party)), FormulaSharing.REFUSED);
        }
        due("leaf(0) at 24 nodes", full(1).leaf(0), FormulaSharing.FULL);
    }

    private static void gate() {
        promise = "promise 3";
        FormulaSharing x = new FormulaSharing(5);
        for (int party = 0; party < 6; party++) {
            x.leaf(party);
        }
        int[][] wrongGates = {{1, 0}, {0, 0}, {1, 6}, {6, 6}, {0, 3}, {4, 3}, {-1, 3}, {6, 5}, {2, 1}, {1, -1},
            {-1, -1}, {Integer.MIN_VALUE, 5}, {Integer.MAX_VALUE, 5}, {1, Integer.MIN_VALUE}, {1, Integer.MAX_VALUE}};
        for (int[] g : wrongGates) {
            due("gate(" + g[0] + ", " + g[1] + ")", x.gate(g[0], g[1]), FormulaSharing.BAD_GATE);
        }
        due("gate(3, 5)", x.gate(3, 5), 2);
        due("gate(1, 3)", x.gate(1, 3), FormulaSharing.STACK_LOW);
        due("gate(2, 2)", x.gate(2, 2), 1);
        due("gate(2, 2) over one", x.gate(2, 2), FormulaSharing.STACK_LOW);
        due("gate(1, 1)", x.gate(1, 1), 1);
        due("share(33)", x.share(33), 0);
        // The gate of five took parties 1 to 5, the ones on top.
        due("open(0 1 2 3)", x.open(0b001111), 33);
        due("open(0 3 4 5)", x.open(0b111001), 33);
        due("open(1 2 3 4 5)", x.open(0b111110), FormulaSharing.REFUSED);
        due("open(0 1 2)", x.open(0b000111), FormulaSharing.REFUSED);
        due("gate(1, 1) at 24 nodes", full(1).gate(1, 1), FormulaSharing.FULL);
        for (int n = 1; n <= 5; n++) {
            FormulaSharing low = new FormulaSharing(n);
            for (int i = 1; i < n; i++) {
                low.leaf(i);
            }
            due("gate(1, " + n + ") over too few", low.gate(1, n), FormulaSharing.STACK_LOW);
            due("leaf after the refusal", low.leaf(0), n);
            due("gate(1, " + n + ")", low.gate(1, n), 1);
        }
    }

    private static void clear() {
        promise = "promise 4";
        FormulaSharing x = full(1);
        x.share(100);
        x.clear();
        nothingIsShared(x);
        due("share(1)", x.share(1), FormulaSharing.UNFINISHED);
        due("gate(1, 1)", x.gate(1, 1), FormulaSharing.STACK_LOW);
        for (int i = 1; i <= 6; i++) {
            due("leaf after clear", x.leaf(i), i);
        }
        x.clear();
        x.clear();
        due("leaf(6)", x.leaf(6), 1);
        for (int i = 1; i < 24; i++) {
            due("gate(1, 1), node " + i, x.gate(1, 1), 1);
        }
        due("leaf(0)", x.leaf(0), FormulaSharing.FULL);
        nothingIsShared(x);
        due("share(3)", x.share(3), 0);
        due("open(64)", x.open(64), 3);
        due("open(191)", x.open(191), FormulaSharing.REFUSED);
    }

    private static void share() {
        promise = "promise 5";
        FormulaSharing x = new FormulaSharing(-9);
        due("share(1) on an empty stack", x.share(1), FormulaSharing.UNFINISHED);
        x.leaf(0);
        x.leaf(1);
        due("share(1) on two formulas", x.share(1), FormulaSharing.UNFINISHED);
        x.gate(2, 2);
        int[] wrongSecrets = {-1, 251, 252, Integer.MAX_VALUE, Integer.MIN_VALUE};
        for (int secret : wrongSecrets) {
            due("share(" + secret + ")", x.share(secret), FormulaSharing.BAD_SECRET);
            nothingIsShared(x);
        }
        for (int secret = 0; secret <= 250; secret++) {
            due("share(" + secret + ")", x.share(secret), 0);
            due("open(3)", x.open(3), secret);
        }
        due("share(251)", x.share(251), FormulaSharing.BAD_SECRET);
        due("open(3) after the refusal", x.open(3), 250);
        due("the formula stays", x.leaf(2), 2);
    }

    private static void whatWasSharedStays() {
        promise = "promise 5, the formula as it was";
        FormulaSharing x = gateOver(2, 0, 1, 2);
        x.share(42);
        due("leaf(7)", x.leaf(7), 2);
        due("share(1) on two formulas", x.share(1), FormulaSharing.UNFINISHED);
        due("open(3) after the refusal", x.open(3), 42);
        due("gate(2, 2)", x.gate(2, 2), 1);
        due("open(5)", x.open(5), 42);
        due("qualified()", x.qualified(), 128);
        due("needed()", x.needed(), 0);
        due("fewest()", x.fewest(), 2);
        due("minimal(6)", x.minimal(6), true);
        due("add(1)", x.add(1), 0);
        due("scale(2)", x.scale(2), 0);
        due("refresh()", x.refresh(), 0);
        due("open(6)", x.open(6), 86);
        due("share(300)", x.share(300), FormulaSharing.BAD_SECRET);
        due("open(6) after the refusal", x.open(6), 86);
        due("share(8)", x.share(8), 0);
        due("open(6) by the new formula", x.open(6), FormulaSharing.REFUSED);
        due("open(134)", x.open(134), 8);
        due("qualified() by the new formula", x.qualified(), 64);
        due("needed() by the new formula", x.needed(), 1);
        due("fewest() by the new formula", x.fewest(), 3);
    }

    private static void add() {
        promise = "promise 6";
        FormulaSharing x = twoWays(3);
        due("add(0)", x.add(0), FormulaSharing.NOT_SHARED);
        x.share(250);
        int[] wrongSecrets = {-1, 251, Integer.MAX_VALUE, Integer.MIN_VALUE};
        for (int more : wrongSecrets) {
            due("add(" + more + ")", x.add(more), FormulaSharing.BAD_SECRET);
            due("open(3) after the refusal", x.open(3), 250);
        }
        due("add(1)", x.add(1), 0);
        due("open(3)", x.open(3), 0);
        due("add(0)", x.add(0), 0);
        due("open(12)", x.open(12), 0);
        due("add(250)", x.add(250), 0);
        due("open(20)", x.open(20), 250);
        due("add(250)", x.add(250), 0);
        due("open(24)", x.open(24), 249);
        due("open(9)", x.open(9), FormulaSharing.REFUSED);
    }

    private static void scale() {
        promise = "promise 7";
        FormulaSharing x = twoWays(3);
        due("scale(0)", x.scale(0), FormulaSharing.NOT_SHARED);
        x.share(250);
        int[] wrongFactors = {-1, 251, Integer.MAX_VALUE, Integer.MIN_VALUE};
        for (int factor : wrongFactors) {
            due("scale(" + factor + ")", x.scale(factor), FormulaSharing.BAD_SECRET);
            due("open(3) after the refusal", x.open(3), 250);
        }
        due("scale(1)", x.scale(1), 0);
        due("open(3)", x.open(3), 250);
        due("scale(250)", x.scale(250), 0);
        due("open(12)", x.open(12), 1);
        due("scale(100)", x.scale(100), 0);
        due("scale(100)", x.scale(100), 0);
        due("open(20)", x.open(20), 10000 % 251);
        due("scale(0)", x.scale(0), 0);
        due("open(24)", x.open(24), 0);
        due("open(9)", x.open(9), FormulaSharing.REFUSED);
        due("add(17)", x.add(17), 0);
        due("open(24)", x.open(24), 17);
        due("open(3)", x.open(3), 17);
    }

    private static void refresh() {
        promise = "promise 8";
        FormulaSharing x = twoWays(12);
        due("refresh()", x.refresh(), FormulaSharing.NOT_SHARED);
        x.share(123);
        for (int i = 0; i < 40; i++) {
            due("refresh()", x.refresh(), 0);
            due("open(3)", x.open(3), 123);
            due("open(12)", x.open(12), 123);
            due("open(31)", x.open(31), 123);
            due("open(17)", x.open(17), FormulaSharing.REFUSED);
        }
        due("qualified()", x.qualified(), 160);
    }

    private static void open() {
        promise = "promise 9";
        FormulaSharing x = twoWays(1);
        due("open(0)", x.open(0), FormulaSharing.NOT_SHARED);
        x.share(200);
        due("open(0)", x.open(0), FormulaSharing.REFUSED);
        for (int mask = 0; mask < 256; mask++) {
            boolean pair = (mask & 3) == 3;
            boolean two = Integer.bitCount(mask & 28) >= 2;
            int want = pair || two ? 200 : FormulaSharing.REFUSED;
            due("open(" + mask + ")", x.open(mask), want);
            due("open with bits above", x.open(mask | 0x7fffff00), want);
            due("open of a negative mask", x.open(mask | 0xffffff00), want);
        }
    }

    private static void openEveryThreshold() {
        promise = "promise 9, thresholds";
        int[][] parties = {{6}, {6, 0}, {6, 0, 7}, {6, 0, 7, 2}, {6, 0, 7, 2, 3}};
        for (int[] of : parties) {
            int all = 0;
            for (int party : of) {
                all |= 1 << party;
            }
            for (int k = 1; k <= of.length; k++) {
                FormulaSharing x = gateOver(k, of);
                x.share(191);
                for (int mask = 0; mask < 256; mask++) {
                    int want = Integer.bitCount(mask & all) >= k ? 191 : FormulaSharing.REFUSED;
                    due("open(" + mask + ") of " + k + " of " + of.length, x.open(mask), want);
                }
            }
        }
    }

    private static void openNested() {
        promise = "promise 9, one party at several leaves";
        FormulaSharing x = new FormulaSharing(8);
        x.leaf(1);
        x.leaf(1);
        x.leaf(2);
        x.gate(2, 3);
        x.leaf(4);
        x.leaf(3);
        x.leaf(2);
        x.gate(2, 2);
        due("gate(2, 3)", x.gate(2, 3), 1);
        x.share(64);
        for (int mask = 0; mask < 256; mask++) {
            int met = bit(mask, 1) + bit(mask, 4) + bit(mask, 3) * bit(mask, 2);
            due("open(" + mask + ")", x.open(mask), met >= 2 ? 64 : FormulaSharing.REFUSED);
        }
    }

    private static int bit(int mask, int party) {
        return (mask >> party) & 1;
    }

    private static void qualified() {
        promise = "promise 10";
        for (int k = 1; k <= 5; k++) {
            FormulaSharing x = gateOver(k, 7, 5, 3, 1, 0);
            due("qualified()", x.qualified(), FormulaSharing.NOT_SHARED);
            x.share(0);
            int[] want = {0, 248, 208, 128, 48, 8};
            due("qualified() of " + k + " of 5", x.qualified(), want[k]);
        }
        FormulaSharing twice = gateOver(2, 4, 4);
        twice.share(1);
        due("qualified() of one party twice", twice.qualified(), 128);
        FormulaSharing ways = twoWays(0);
        ways.share(1);
        due("qualified() of two ways", ways.qualified(), 160);
        FormulaSharing all = allEight();
        all.share(1);
        due("qualified() of all eight", all.qualified(), 1);
    }

    /** A new object whose formula asks for every party. */
    private static FormulaSharing allEight() {
        FormulaSharing x = gateOver(5, 0, 1, 2, 3, 4);
        x.leaf(5);
        x.leaf(6);
        x.leaf(7);
        x.gate(4, 4);
        return x;
    }

    private static void minimal() {
        promise = "promise 11";
        FormulaSharing x = twoWays(6);
        due("minimal(3)", x.minimal(3), false);
        x.share(5);
        for (int mask = 0; mask < 256; mask++) {
            boolean want = mask == 3 || mask == 12 || mask == 20 || mask == 24;
            due("minimal(" + mask + ")", x.minimal(mask), want);
            due("minimal with bits above", x.minimal(mask | 0x7fffff00), want);
            due("minimal of a negative mask", x.minimal(mask | 0xffffff00), want);
        }
        FormulaSharing all = allEight();
        all.share(5);
        for (int mask = 0; mask < 256; mask++) {
            due("minimal(" + mask + ") of all eight", all.minimal(mask), mask == 255);
        }
        // Party 4 is of no use: with it a set fulfils the formula just if it does so without.
        FormulaSharing idle = gateOver(1, 4, 6);
        idle.leaf(6);
        idle.gate(2, 2);
        idle.share(5);
        for (int mask = 0; mask < 256; mask++) {
            due("minimal(" + mask + ") of an idle party", idle.minimal(mask), mask == 64);
        }
    }

    private static void fewest() {
        promise = "promise 12";
        for (int k = 1; k <= 5; k++) {
            FormulaSharing x = gateOver(k, 7, 5, 3, 1, 0);
            due("fewest()", x.fewest(), FormulaSharing.NOT_SHARED);
            x.share(0);
            due("fewest() of " + k + " of 5", x.fewest(), k);
        }
        FormulaSharing often = gateOver(5, 2, 2, 2, 2, 2);
        often.share(1);
        due("fewest() of one party five times", often.fewest(), 1);
        FormulaSharing all = allEight();
        all.share(1);
        due("fewest() of all eight", all.fewest(), 8);
    }

    private static void needed() {
        promise = "promise 13";
        for (int k = 1; k <= 5; k++) {
            FormulaSharing x = gateOver(k, 7, 5, 3, 1, 0);
            due("needed()", x.needed(), FormulaSharing.NOT_SHARED);
            x.share(0);
            due("needed() of " + k + " of 5", x.needed(), k == 5 ? 5 : 0);
        }
        // 7 and (6 or 7) and (1 or 2): only 7 is in every set.
        FormulaSharing x = new FormulaSharing(2);
        x.leaf(7);
        x.leaf(6);
        x.leaf(7);
        x.gate(1, 2);
        x.leaf(1);
        x.leaf(2);
        x.gate(1, 2);
        x.gate(3, 3);
        x.share(9);
        due("needed() with a party twice", x.needed(), 1);
        due("fewest()", x.fewest(), 2);
        FormulaSharing all = allEight();
        all.share(1);
        due("needed() of all eight", all.needed(), 8);
    }

    private static void order() {
        promise = "promise 14";
        FormulaSharing high = full(6);
        due("leaf(8): party before full", high.leaf(8), FormulaSharing.BAD_PARTY);
        due("leaf(0): full before the stack", high.leaf(0), FormulaSharing.FULL);
        due("gate(0, 1): gate before full", high.gate(0, 1), FormulaSharing.BAD_GATE);
        due("gate(1, 6): gate before full", high.gate(1, 6), FormulaSharing.BAD_GATE);
        due("share(251): unfinished before the secret", high.share(251), FormulaSharing.UNFINISHED);
        FormulaSharing low = full(1);
        due("gate(1, 2): full before the stack", low.gate(1, 2), FormulaSharing.FULL);
        due("gate(3, 2): gate before full", low.gate(3, 2), FormulaSharing.BAD_GATE);
        FormulaSharing six = new FormulaSharing(0);
        for (int i = 0; i < 6; i++) {
            six.leaf(i);
        }
        due("leaf(-1): party before the stack", six.leaf(-1), FormulaSharing.BAD_PARTY);
        FormulaSharing empty = new FormulaSharing(0);
        due("gate(2, 1): gate before the stack", empty.gate(2, 1), FormulaSharing.BAD_GATE);
        due("share(-1): unfinished before the secret", empty.share(-1), FormulaSharing.UNFINISHED);
        due("add(251): secret before not shared", empty.add(251), FormulaSharing.BAD_SECRET);
        due("add(-1): secret before not shared", empty.add(-1), FormulaSharing.BAD_SECRET);
        due("scale(251): secret before not shared", empty.scale(251), FormulaSharing.BAD_SECRET);
        due("scale(-1): secret before not shared", empty.scale(-1), FormulaSharing.BAD_SECRET);
    }

    private static void limits() {
        promise = "promise 14, limits";
        // Refusals use up no nodes: after many of them there is still room for 24.
        FormulaSharing x = new FormulaSharing(0);
        for (int i = 0; i < 6; i++) {
            x.leaf(i);
        }
        for (int i = 0; i < 30; i++) {
            due("leaf(1)", x.leaf(1), FormulaSharing.STACK_HIGH);
            due("leaf(8)", x.leaf(8), FormulaSharing.BAD_PARTY);
            due("gate(6, 5)", x.gate(6, 5), FormulaSharing.BAD_GATE);
        }
        due("gate(1, 5)", x.gate(1, 5), 2);
        for (int i = 0; i < 30; i++) {
            due("gate(1, 3)", x.gate(1, 3), FormulaSharing.STACK_LOW);
        }
        for (int i = 7; i < 23; i++) {
            due("gate(1, 1), node " + i, x.gate(1, 1), 2);
        }
        due("gate(2, 2), node 23", x.gate(2, 2), 1);
        due("gate(1, 1)", x.gate(1, 1), FormulaSharing.FULL);
        due("leaf(1)", x.leaf(1), FormulaSharing.FULL);
        due("share(250)", x.share(250), 0);
        due("open(3)", x.open(3), 250);
        due("open(62)", x.open(62), FormulaSharing.REFUSED);
        due("open(33)", x.open(33), 250);
        due("fewest()", x.fewest(), 2);
        due("needed()", x.needed(), 1);
    }
}
