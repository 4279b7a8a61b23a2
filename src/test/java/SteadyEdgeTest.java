import java.math.BigInteger;

/** STEADY of section 5 and promise 24: each bound, just inside it and just outside it. */
public final class SteadyEdgeTest {
    private static final int LEAST = Integer.MIN_VALUE, MOST = Integer.MAX_VALUE;

    public static void main(String[] args) {
        degrees();
        coefficientsEach();
        firstCoefficient();
        tooManyDigits();
        tooFewDigits();
        ofOneDegree();
        ofTwoDegrees();
        rootsOnTheCircle();
        greatestNumbers();
        allOfThree();
        Check.end("SteadyEdgeTest");
    }

    private static long digits(int... c) {
        long v = 0;
        for (int i = c.length - 1; i >= 0; i--) {
            v = v << 8 | c[i] + 100;
        }
        return v;
    }

    private static int steady(int... c) {
        return new OrderEcho().steady(digits(c), c.length - 1);
    }

    /** "k 1 .. 4". */
    private static void degrees() {
        OrderEcho x = new OrderEcho();
        int[] bad = {LEAST, -1, 0, 5, 6, 7, 8, 31, 32, 64, MOST};
        long[] rows = {digits(1), digits(1, 0), digits(1, 0, 0, 0, 0), digits(1, 0, 0, 0, 0, 0),
            digits(1, 0, 0, 0, 0, 0, 0), digits(1, 0, 0, 0, 0, 0, 0, 0), 0, -1};
        for (int k : bad) {
            for (long row : rows) {
                Check.due("k " + k, x.steady(row, k), -2);
            }
        }
        Check.due("k 1", steady(1, 0), 1);
        Check.due("k 2", steady(1, 0, 0), 1);
        Check.due("k 3", steady(1, 0, 0, 0), 1);
        Check.due("k 4", steady(1, 0, 0, 0, 0), 1);
    }

    /** "each -99 .. 99": at each place of each degree. */
    private static void coefficientsEach() {
        for (int k = 1; k <= 4; k++) {
            for (int i = 0; i <= k; i++) {
                for (int v = -100; v <= 155; v++) {
                    int[] c = new int[k + 1];
                    c[0] = 1;
                    c[i] = v;
                    boolean fine = v >= -99 && v <= 99 && c[0] != 0;
                    int got = steady(c);
                    Check.due("coefficient " + i + " of " + k + " is " + v, got, fine ? bySteps(c) : -2);
                }
            }
        }
    }

    /** "c0 not 0". */
    private static void firstCoefficient() {
        Check.due("c0 0", steady(0, 1), -2);
        Check.due("c0 0, and all others", steady(0, 0, 0, 0, 0), -2);
        Check.due("c0 1", steady(1, 0), 1);
        Check.due("c0 -1", steady(-1, 0), 1);
        Check.due("others may be 0", steady(7, 0, 0, 0, 0), 1);
        Check.due("the last one 0", steady(3, -1, 0), 1);
        Check.due("the last one 0, and not STEADY", steady(1, -1, 0), 0);
        Check.due("the last one 0, and not STEADY", steady(1, -2, 0), 0);
    }

    private static void tooManyDigits() {
        for (int k = 1; k <= 4; k++) {
            int[] c = new int[k + 1];
            c[0] = 9;
            OrderEcho x = new OrderEcho();
            Check.due("k + 1 digits", x.steady(digits(c), k), 1);
            for (int bit = 8 * (k + 1); bit < 64; bit++) {
                Check.due("bit " + bit + " with k " + k, x.steady(digits(c) | 1L << bit, k), -2);
            }
            Check.due("all bits above", x.steady(digits(c) | -1L << 8 * (k + 1), k), -2);
        }
    }

    /** A digit that is not there is 0, which tells -100. */
    private static void tooFewDigits() {
        OrderEcho x = new OrderEcho();
        long row = digits(9, 1, 1, 1, 1);
        for (int k = 1; k <= 4; k++) {
            for (int n = 0; n <= k; n++) {
                Check.due(n + " digits with k " + k, x.steady(row & (1L << 8 * n) - 1, k), -2);
            }
            Check.due("k + 1 digits with k " + k, x.steady(row & (1L << 8 * (k + 1)) - 1, k), 1);
        }
    }

    /** "if the absolute value of c0 is not above that of ck it is not". */
    private static void ofOneDegree() {
        int[] signs = {-1, 1};
        for (int s : signs) {
            for (int r : signs) {
                Check.due("99 and 98", steady(99 * s, 98 * r), 1);
                Check.due("99 and 99", steady(99 * s, 99 * r), 0);
                Check.due("98 and 99", steady(98 * s, 99 * r), 0);
                Check.due("1 and 1", steady(s, r), 0);
                Check.due("2 and 1", steady(2 * s, r), 1);
            }
            Check.due("1 and 0", steady(s, 0), 1);
        }
    }

    /** With k 2 it is STEADY if c0 is above c2, and c0 and c2 together above c1, whatever their signs. */
    private static void ofTwoDegrees() {
        for (int c0 = 1; c0 <= 99; c0 += 7) {
            for (int c2 = -99; c2 <= 99; c2 += 6) {
                for (int c1 = -99; c1 <= 99; c1++) {
                    boolean is = c0 > Math.abs(c2) && Math.abs(c1) < c0 + c2;
                    Check.due(c0 + " " + c1 + " " + c2, steady(c0, c1, c2), is ? 1 : 0);
                    Check.due("turned " + c0 + " " + c1 + " " + c2, steady(-c0, -c1, -c2), is ? 1 : 0);
                }
            }
        }
    }

    /** "if no z with an absolute value of 1 or less makes it 0": just 1 is not STEADY. */
    private static void rootsOnTheCircle() {
        Check.due("1 - z", steady(1, -1), 0);
        Check.due("1 + z z", steady(1, 0, 1), 0);
        Check.due("2 + z z", steady(2, 0, 1), 1);
        Check.due("(2 - z) (1 - z)", steady(2, -3, 1), 0);
        Check.due("(2 + z) (1 + z)", steady(2, 3, 1), 0);
        Check.due("(2 - z) (1 + z z)", steady(2, -1, 2, -1), 0);
        Check.due("(2 - z) (3 - z) (1 + z)", steady(6, 1, -4, 1), 0);
        Check.due("(2 - z) (3 - z) (1 - z + z z)", steady(6, -11, 12, -6, 1), 0);
        Check.due("(2 - z) (2 - z) (2 - z) (2 - z)", steady(16, -32, 24, -8, 1), 1);
        Check.due("(2 - z) (2 - z) (1 + z z)", steady(4, -4, 5, -4, 1), 0);
        Check.due("(50 - 49 z) (1 - 0 z)", steady(50, -49, 0, 0, 0), 1);
        Check.due("(50 - 50 z)", steady(50, -50, 0, 0, 0), 0);
    }

    /** "(No number on the way is too great.)": rows of 99, 98, -99, -98 and the like, against great numbers. */
    private static void greatestNumbers() {
        int[] ends = {99, 98, 97, -99, -98, -97, 50, 0};
        for (int c0 : ends) {
            for (int c1 : ends) {
                for (int c2 : ends) {
                    for (int c3 : ends) {
                        for (int c4 : ends) {
                            int[] c = {c0, c1, c2, c3, c4};
                            Check.due("k 4", steady(c), c0 == 0 ? -2 : bySteps(c));
                        }
                    }
                }
            }
        }
    }

    private static void allOfThree() {
        for (int c0 = 1; c0 <= 4; c0++) {
            for (int c1 = -6; c1 <= 6; c1++) {
                for (int c2 = -6; c2 <= 6; c2++) {
                    for (int c3 = -4; c3 <= 4; c3++) {
                        int[] c = {c0, c1, c2, c3};
                        Check.due("k 3", steady(c), bySteps(c));
                    }
                }
            }
        }
    }

    /** The document's steps with numbers that have no end. */
    private static int bySteps(int... c) {
        BigInteger[] row = new BigInteger[c.length];
        for (int i = 0; i < c.length; i++) {
            row[i] = BigInteger.valueOf(c[i]);
        }
        for (int k = c.length - 1; k > 0; k--) {
            if (row[0].abs().compareTo(row[k].abs()) <= 0) {
                return 0;
            }
            BigInteger[] next = new BigInteger[k];
            for (int i = 0; i < k; i++) {
                next[i] = row[0].multiply(row[i]).subtract(row[k].multiply(row[k - i]));
            }
            row = next;
        }
        return 1;
    }
}
