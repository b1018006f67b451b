import java.lang.reflect.Field;
import java.util.Arrays;
import java.util.HashSet;
import java.util.Set;

/**
 * That the secret really lies in the shares: what no answer can show, seen through the private fields.
 * Promises 5 to 9 speak of shares, and of random numbers in them.
 */
public final class SharesTest {
    private static int wrong = 0;

    public static void main(String[] args) throws ReflectiveOperationException {
        openNeedsTheSetsSharesAlone();
        shareHidesTheSecret();
        tooFewSharesTellNothing();
        refreshGivesNewNumbers();
        addGivesNewNumbers();
        scaleMultipliesShares();
        clearForgetsShares();
        System.out.println(wrong == 0 ? "the secret lies in the shares alone" : wrong + " checks failed");
        if (wrong != 0) {
            System.exit(1);
        }
    }

    private static void check(boolean holds, String what) {
        if (!holds) {
            wrong++;
            System.out.println("does not hold: " + what);
        }
    }

    private static int[] ints(FormulaSharing x, String name) throws ReflectiveOperationException {
        Field field = FormulaSharing.class.getDeclaredField(name);
        field.setAccessible(true);
        return (int[]) field.get(x);
    }

    private static FormulaSharing ofFive(int k, int noise, int secret) {
        FormulaSharing x = new FormulaSharing(noise);
        for (int party = 0; party < 5; party++) {
            x.leaf(party);
        }
        x.gate(k, 5);
        x.share(secret);
        return x;
    }

    private static FormulaSharing threeOfFive(int noise, int secret) {
        return ofFive(3, noise, secret);
    }

    private static void openNeedsTheSetsSharesAlone() throws ReflectiveOperationException {
        for (int mask = 0; mask < 32; mask++) {
            if (Integer.bitCount(mask) != 3) {
                continue;
            }
            FormulaSharing x = threeOfFive(mask, 99);
            int[] shares = ints(x, "shares");
            for (int party = 0; party < 5; party++) {
                if ((mask >> party & 1) == 0) {
                    shares[party] = (shares[party] + 1) % 251;
                }
            }
            check(x.open(mask) == 99, "open(" + mask + ") looks at no share outside the set");
            int first = Integer.numberOfTrailingZeros(mask);
            shares[first] = (shares[first] + 1) % 251;
            check(x.open(mask) != 99, "open(" + mask + ") uses the share of party " + first);
        }
    }

    /** Over many noises a single share takes every value. */
    private static void shareHidesTheSecret() throws ReflectiveOperationException {
        for (int k = 2; k <= 5; k++) {
            boolean[][] seen = new boolean[5][251];
            for (int noise = 0; noise < 5000; noise++) {
                int[] shares = ints(ofFive(k, noise, 7), "shares");
                for (int party = 0; party < 5; party++) {
                    check(shares[party] >= 0 && shares[party] < 251, "a share is a number from 0 to 250");
                    seen[party][shares[party]] = true;
                }
            }
            for (boolean[] values : seen) {
                int count = 0;
                for (boolean value : values) {
                    count += value ? 1 : 0;
                }
                check(count == 251, "a share of " + k + " of 5 can be any number, not just " + count);
            }
        }
        int[] dealt = ints(threeOfFive(3, 7), "dealt");
        check(Arrays.equals(dealt, new int[24]), "nothing of the dealing is left over");
    }

    /**
     * One share fewer than the threshold asks for must be free to be anything: with one random number too few
     * there would be 251 times fewer combinations, and many of 5000 would come again (above 4 of 5 too few do).
     */
    private static void tooFewSharesTellNothing() throws ReflectiveOperationException {
        for (int k = 3; k <= 4; k++) {
            Set<String> combinations = new HashSet<>();
            for (int noise = 0; noise < 5000; noise++) {
                int[] shares = ints(ofFive(k, noise, 7), "shares");
                combinations.add(Arrays.toString(Arrays.copyOf(shares, k - 1)));
            }
            int least = k == 3 ? 4500 : 4980;
            check(combinations.size() >= least, combinations.size() + " combinations of " + (k - 1) + " shares");
        }
    }

    /** Over many noises every single share is moved by every number. */
    private static void refreshGivesNewNumbers() throws ReflectiveOperationException {
        boolean[][] seen = new boolean[5][251];
        for (int noise = 0; noise < 5000; noise++) {
            FormulaSharing x = threeOfFive(noise, 7);
            int[] before = ints(x, "shares").clone();
            x.refresh();
            int[] after = ints(x, "shares");
            for (int party = 0; party < 5; party++) {
                seen[party][(after[party] - before[party] + 251) % 251] = true;
            }
            check(x.open(7) == 7 && x.open(28) == 7, "refresh keeps the secret");
        }
        for (boolean[] moves : seen) {
            int count = 0;
            for (boolean move : moves) {
                count += move ? 1 : 0;
            }
            check(count == 251, "refresh gives all shares new numbers, not just by " + count + " moves");
        }
    }

    private static void addGivesNewNumbers() throws ReflectiveOperationException {
        FormulaSharing x = threeOfFive(22, 7);
        int[] before = ints(x, "shares").clone();
        x.add(0);
        check(!Arrays.equals(before, ints(x, "shares")), "add deals shares of what is added");
        check(x.open(7) == 7 && x.open(28) == 7, "add(0) keeps the secret");
        for (int i = 0; i < 100; i++) {
            x.add(250);
        }
        for (int share : ints(x, "shares")) {
            check(share >= 0 && share < 251, "a share stays a number from 0 to 250");
        }
    }

    private static void scaleMultipliesShares() throws ReflectiveOperationException {
        FormulaSharing x = threeOfFive(23, 7);
        int[] before = ints(x, "shares").clone();
        x.scale(30);
        for (int party = 0; party < 5; party++) {
            check(ints(x, "shares")[party] == before[party] * 30 % 251, "scale multiplies share " + party);
        }
    }

    private static void clearForgetsShares() throws ReflectiveOperationException {
        FormulaSharing x = threeOfFive(24, 7);
        x.clear();
        check(Arrays.equals(ints(x, "shares"), new int[24]), "clear leaves no share");
    }
}
