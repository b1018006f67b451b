import java.lang.reflect.Field;
import java.util.Arrays;
import java.util.HashSet;
import java.util.Set;

/**
 * That the secret really lies in the shares: what no answer can show, seen through the private fields.
 * Promises 5 to 9 speak of shares, and of random numbers in them.
 */
public final class SharesTest {
    // At which node of the formula of nested each party's leaf stands.
    private static final int[] NESTED_LEAVES = {0, 1, 2, 4, 5, 6, 7, 9};
    private static int wrong = 0;

    public static void main(String[] args) throws ReflectiveOperationException {
        openNeedsTheSetsSharesAlone();
        openOfGatesUnderGatesNeedsTheSetsSharesAlone();
        nothingButTheSharesHoldsTheSecret();
        shareHidesTheSecret();
        tooFewSharesTellNothing();
        gatesUnderGatesDrawNumbersOfTheirOwn();
        refreshGivesNewNumbers();
        refreshGivesAllSharesNewNumbersEachTime();
        addGivesNewNumbers();
        scaleMultipliesShares();
        addScaleAndRefreshWorkOnTheSharesAlone();
        clearForgetsShares();
        System.out.println(wrong == 0 ? "the secret lies in the shares alone" : wrong + " checks failed");
        if (wrong != 0) {
            System.exit(1);
        }
    }

    private static void check(boolean holds, String what) {
        if (!holds) {
            wrong++;
            System.out.println("does not hold: " + what);
        }
    }

    private static int[] ints(FormulaSharing x, String name) throws ReflectiveOperationException {
        Field field = FormulaSharing.class.getDeclaredField(name);
        field.setAccessible(true);
        return (int[]) field.get(x);
    }

    private static FormulaSharing ofFive(int k, int noise, int secret) {
        FormulaSharing x = new FormulaSharing(noise);
        for (int party = 0; party < 5; party++) {
            x.leaf(party);
        }
        x.gate(k, 5);
        x.share(secret);
        return x;
    }

    private static FormulaSharing threeOfFive(int noise, int secret) {
        return ofFive(3, noise, secret);
    }

    /** Two of: all of 0, 1, 2; at least two of 3, 4, 5, 6; and 7. Every party has one leaf. */
    private static FormulaSharing nested(int noise, int secret) {
        FormulaSharing x = new FormulaSharing(noise);
        x.leaf(0);
        x.leaf(1);
        x.leaf(2);
        x.gate(3, 3);
        x.leaf(3);
        x.leaf(4);
        x.leaf(5);
        x.leaf(6);
        x.gate(2, 4);
        x.leaf(7);
        x.gate(1, 1);
        x.gate(2, 3);
        x.share(secret);
        return x;
    }

    private static boolean has(int mask, int party) {
        return (mask >> party & 1) == 1;
    }

    private static void spoil(int[] shares, int leaf, int error) {
        shares[leaf] = (shares[leaf] + error) % 251;
    }

    private static void openNeedsTheSetsSharesAlone() throws ReflectiveOperationException {
        for (int mask = 0; mask < 32; mask++) {
            if (Integer.bitCount(mask) != 3) {
                continue;
            }
            FormulaSharing x = threeOfFive(mask, 99);
            int[] shares = ints(x, "shares");
            for (int party = 0; party < 5; party++) {
                if ((mask >> party & 1) == 0) {
                    shares[party] = (shares[party] + 1) % 251;
                }
            }
            check(x.open(mask) == 99, "open(" + mask + ") looks at no share outside the set");
            int first = Integer.numberOfTrailingZeros(mask);
            shares[first] = (shares[first] + 1) % 251;
            check(x.open(mask) != 99, "open(" + mask + ") uses the share of party " + first);
        }
    }

    private static void openOfGatesUnderGatesNeedsTheSetsSharesAlone() throws ReflectiveOperationException {
        for (int mask = 0; mask < 256; mask++) {
            FormulaSharing x = nested(mask, 99);
            boolean opens = x.open(mask) == 99;
            int[] shares = ints(x, "shares");
            for (int party = 0; party < 8; party++) {
                if (!has(mask, party)) {
                    spoil(shares, NESTED_LEAVES[party], 100);
                }
            }
            check(x.open(mask) == (opens ? 99 : FormulaSharing.REFUSED), "open(" + mask + ") spoilt from outside");
            for (int party = 0; party < 8 && x.minimal(mask); party++) {
                if (has(mask, party)) {
                    spoil(shares, NESTED_LEAVES[party], 1);
                    check(x.open(mask) != 99, "open(" + mask + ") uses the share of party " + party);
                    spoil(shares, NESTED_LEAVES[party], 250);
                }
            }
        }
    }

    /** With another object's shares an object opens the other's secret. */
    private static void nothingButTheSharesHoldsTheSecret() throws ReflectiveOperationException {
        for (int secret = 0; secret < 251; secret++) {
            FormulaSharing one = nested(secret, secret);
            FormulaSharing other = nested(-1 - secret, 0);
            other.add(125);
            other.scale(secret);
            other.refresh();
            int due = other.open(255);
            System.arraycopy(ints(other, "shares"), 0, ints(one, "shares"), 0, 24);
            for (int mask : new int[] {31, 135, 152, 176, 224, 255}) {
                check(one.open(mask) == due, "open(" + mask + ") puts together the other's secret");
            }
        }
    }

    /** Over many noises a single share takes every value. */
    private static void shareHidesTheSecret() throws ReflectiveOperationException {
        for (int k = 2; k <= 5; k++) {
            boolean[][] seen = new boolean[5][251];
            for (int noise = 0; noise < 5000; noise++) {
                int[] shares = ints(ofFive(k, noise, 7), "shares");
                for (int party = 0; party < 5; party++) {
                    check(shares[party] >= 0 && shares[party] < 251, "a share is a number from 0 to 250");
                    seen[party][shares[party]] = true;
                }
            }
            for (boolean[] values : seen) {
                int count = 0;
                for (boolean value : values) {
                    count += value ? 1 : 0;
                }
                check(count == 251, "a share of " + k + " of 5 can be any number, not just " + count);
            }
        }
        int[] dealt = ints(threeOfFive(3, 7), "dealt");
        check(Arrays.equals(dealt, new int[24]), "nothing of the dealing is left over");
    }

    /**
     * One share fewer than the threshold asks for must be free to be anything: with one random number too few
     * there would be 251 times fewer combinations, and many of 5000 would come again (above 4 of 5 too few do).
     */
    private static void tooFewSharesTellNothing() throws ReflectiveOperationException {
        for (int k = 3; k <= 4; k++) {
            Set<String> combinations = new HashSet<>();
            for (int noise = 0; noise < 5000; noise++) {
                int[] shares = ints(ofFive(k, noise, 7), "shares");
                combinations.add(Arrays.toString(Arrays.copyOf(shares, k - 1)));
            }
            int least = k == 3 ? 4500 : 4980;
            check(combinations.size() >= least, combinations.size() + " combinations of " + (k - 1) + " shares");
        }
    }

    /**
     * Parties 0, 1 and 3 can't open nested, so their shares must be free to be anything: would two gates draw the
     * same numbers, there would be far fewer combinations.
     */
    private static void gatesUnderGatesDrawNumbersOfTheirOwn() throws ReflectiveOperationException {
        Set<String> combinations = new HashSet<>();
        for (int noise = 0; noise < 5000; noise++) {
            int[] shares = ints(nested(noise, 7), "shares");
            combinations.add(shares[0] + " " + shares[1] + " " + shares[NESTED_LEAVES[3]]);
        }
        check(combinations.size() >= 4980, combinations.size() + " combinations of the shares of 0, 1 and 3");
    }

    /** Over many noises every single share is moved by every number. */
    private static void refreshGivesNewNumbers() throws ReflectiveOperationException {
        boolean[][] seen = new boolean[5][251];
        for (int noise = 0; noise < 5000; noise++) {
            FormulaSharing x = threeOfFive(noise, 7);
            int[] before = ints(x, "shares").clone();
            x.refresh();
            int[] after = ints(x, "shares");
            for (int party = 0; party < 5; party++) {
                seen[party][(after[party] - before[party] + 251) % 251] = true;
            }
            check(x.open(7) == 7 && x.open(28) == 7, "refresh keeps the secret");
        }
        for (boolean[] moves : seen) {
            int count = 0;
            for (boolean move : moves) {
                count += move ? 1 : 0;
            }
            check(count == 251, "refresh gives all shares new numbers, not just by " + count + " moves");
        }
    }

    private static void refreshGivesAllSharesNewNumbersEachTime() throws ReflectiveOperationException {
        FormulaSharing x = nested(5, 7);
        boolean[][] seen = new boolean[8][251];
        Set<String> together = new HashSet<>();
        for (int i = 0; i < 400; i++) {
            int[] moves = ints(x, "shares").clone();
            x.refresh();
            for (int node = 0; node < 24; node++) {
                moves[node] = (ints(x, "shares")[node] - moves[node] + 251) % 251;
            }
            for (int party = 0; party < 8; party++) {
                seen[party][moves[NESTED_LEAVES[party]]] = true;
            }
            together.add("0 and 1: " + moves[NESTED_LEAVES[0]] + " " + moves[NESTED_LEAVES[1]]);
            together.add("3 and 4: " + moves[NESTED_LEAVES[3]] + " " + moves[NESTED_LEAVES[4]]);
        }
        // Two shares move free of each other, so of the 800 pairs of moves few should come again.
        check(together.size() >= 780, "shares of one gate move each by itself: " + together.size() + " moves of two");
        for (int party = 0; party < 8; party++) {
            int count = 0;
            for (boolean move : seen[party]) {
                count += move ? 1 : 0;
            }
            // 400 draws of 251 numbers bring about 200 different ones.
            check(count >= 150, "refresh moves the share of party " + party + " just by " + count + " moves");
        }
        check(x.open(152) == 7 && x.open(31) == 7, "refresh keeps the secret");
    }

    private static void addGivesNewNumbers() throws ReflectiveOperationException {
        FormulaSharing x = threeOfFive(22, 7);
        int[] before = ints(x, "shares").clone();
        x.add(0);
        check(!Arrays.equals(before, ints(x, "shares")), "add deals shares of what is added");
        check(x.open(7) == 7 && x.open(28) == 7, "add(0) keeps the secret");
        for (int i = 0; i < 100; i++) {
            x.add(250);
        }
        for (int share : ints(x, "shares")) {
            check(share >= 0 && share < 251, "a share stays a number from 0 to 250");
        }
    }

    private static void scaleMultipliesShares() throws ReflectiveOperationException {
        FormulaSharing x = threeOfFive(23, 7);
        int[] before = ints(x, "shares").clone();
        x.scale(30);
        for (int party = 0; party < 5; party++) {
            check(ints(x, "shares")[party] == before[party] * 30 % 251, "scale multiplies share " + party);
        }
    }

    /** An error in one share stays there: were the secret put together and shared anew, all would have it. */
    private static void addScaleAndRefreshWorkOnTheSharesAlone() throws ReflectiveOperationException {
        for (int leaf : NESTED_LEAVES) {
            FormulaSharing x = nested(leaf, 7);
            int[] shares = ints(x, "shares");
            spoil(shares, leaf, 1);
            x.add(20);
            spoil(shares, leaf, 250);
            check(x.open(255) == 27 && x.open(152) == 27 && x.open(135) == 27, "add works on the shares alone");
            spoil(shares, leaf, 1);
            x.scale(3);
            spoil(shares, leaf, 248);
            check(x.open(255) == 81 && x.open(152) == 81 && x.open(135) == 81, "scale works on the shares alone");
            spoil(shares, leaf, 1);
            x.refresh();
            spoil(shares, leaf, 250);
            check(x.open(255) == 81 && x.open(152) == 81 && x.open(135) == 81, "refresh works on the shares alone");
        }
    }

    private static void clearForgetsShares() throws ReflectiveOperationException {
        FormulaSharing x = threeOfFive(24, 7);
        x.clear();
        check(Arrays.equals(ints(x, "shares"), new int[24]), "clear leaves no share");
    }
}
