/** Promises 25 to 28, and section 6: levels for two stages. */
public final class LevelTest {
    private static final long NO = Long.MIN_VALUE;

    public static void main(String[] args) {
        chances();
        sums();
        refusals();
        leastOfSeveral();
        allRows();
        Check.end("LevelTest");
    }

    private static void chances() {
        OrderEcho x = new OrderEcho();
        for (int d = 0; d <= 4; d++) {
            Check.due("1 for each", x.chance(1, d), 1);
        }
        Check.due("0", x.chances(0), -2);
        Check.due("-1", x.chances(-1), -2);
        Check.due("-11111", x.chances(-11111), -2);
        Check.due("100000", x.chances(100000), -2);
        Check.due("nothing changed", x.chance(1, 0), 1);
        Check.due("99999", x.chances(99999), 0);
        Check.due("9 for each", x.chance(1, 4), 9);
        Check.due("1 for 4", x.chances(1), 0);
        Check.due("chance of 4", x.chance(1, 4), 1);
        Check.due("chance of 0", x.chance(1, 0), 0);
        Check.due("90000", x.chances(90000), 0);
        Check.due("chance of 0", x.chance(1, 0), 9);
    }

    private static void sums() {
        OrderEcho x = new OrderEcho();
        Check.due("n 0", x.chance(0, 0), NO);
        Check.due("n 7", x.chance(7, 0), NO);
        Check.due("n -1", x.chance(-1, 0), NO);
        Check.due("x -1", x.chance(1, -1), NO);
        Check.due("beyond all", x.chance(1, 5), 0);
        Check.due("beyond all", x.chance(6, 25), 0);
        Check.due("far beyond", x.chance(6, Integer.MAX_VALUE), 0);
        Check.due("two weeks", x.chance(2, 4), 5);
        x.chances(99999);
        long all = 0;
        for (int sum = 0; sum <= 24; sum++) {
            all += x.chance(6, sum);
        }
        Check.due("45 to the 6th", all, 8303765625L);
        x.chances(50007);
        Check.due("0 and 4", x.chance(3, 8), 3 * 5 * 49);
        Check.due("not to be had", x.chance(3, 7), 0);
    }

    private static void refusals() {
        OrderEcho x = new OrderEcho();
        int[] leads = {0, 10, 1, 14, 41, 40, 4, 34, 43, 111, -11, 20, Integer.MIN_VALUE, Integer.MAX_VALUE};
        for (int v : leads) {
            Check.due("leads " + v, x.level(0, v, 1101), -2);
            Check.due("leads " + v, x.levelCost(0, v, 1101, 0), NO);
        }
        int[] costs = {0, 1100, 1001, 101, 10101, 11101, -1101, 9900, 999, Integer.MIN_VALUE, Integer.MAX_VALUE};
        for (int v : costs) {
            Check.due("costs " + v, x.level(1, 11, v), -2);
            Check.due("costs " + v, x.levelCost(1, 11, v, 0), NO);
        }
        Check.due("which 2", x.level(2, 11, 1101), -1);
        Check.due("which -1", x.level(-1, 11, 1101), -1);
        Check.due("bad is told first", x.level(2, 10, 1101), -2);
        Check.due("bad is told first", x.level(2, 11, 1100), -2);
        Check.due("which 2", x.levelCost(2, 11, 1101, 0), NO);
        Check.due("which -1", x.levelCost(-1, 11, 1101, 0), NO);
        Check.due("y 31", x.levelCost(1, 11, 1101, 31), NO);
        Check.due("y -31", x.levelCost(1, 11, 1101, -31), NO);
        Check.holds("fine", x.levelCost(1, 33, 9999, 30) > 0);
    }

    private static void leastOfSeveral() {
        OrderEcho x = new OrderEcho();
        x.chances(10001);
        Check.due("0, 4, 8 by 1, 2, 1: 4 to 8 cost the same", x.level(0, 11, 1102), 4);
        Check.due("C(4)", x.levelCost(0, 11, 1102, 4), x.levelCost(0, 11, 1102, 8));
        x.chances(11);
        Check.due("far", x.level(1, 11, 1110), 11);
        Check.due("K(11)", x.levelCost(1, 11, 1110, 11), x.levelCost(1, 11, 1110, 12));
        x.chances(91000);
        Check.due("seldom a demand: near", x.level(0, 11, 1107), 1);
        Check.due("seldom a demand: far", x.level(1, 11, 1107), 1);
        x.chances(10000);
        Check.due("no demand: near", x.level(0, 33, 9999), 0);
        Check.due("no demand: far", x.level(1, 33, 9999), 0);
    }

    /** Against sums over all rows of demands, one by one. */
    private static void allRows() {
        int[] weights = {11111, 12321, 90009, 1, 50000, 70310, 91000, 10102, 15060, 60015};
        int[][] cases = {{11, 1110}, {11, 2305}, {11, 1101}, {21, 9199}, {12, 1901}, {33, 2350}, {31, 9999}, {13, 1199}};
        for (int i = 0; i < weights.length; i++) {
            for (int[] c : cases) {
                compare(weights[i], c[0], c[1]);
            }
        }
    }

    private static void compare(int weights, int leads, int costs) {
        OrderEcho x = new OrderEcho();
        x.chances(weights);
        int[] w = new int[5];
        for (int d = 4, rest = weights; d >= 0; d--, rest /= 10) {
            w[d] = rest % 10;
        }
        int l = leads / 10;
        int m = leads % 10;
        String at = " of " + weights + " " + leads + " " + costs;
        int near = 0;
        for (int y = -30; y <= 30; y++) {
            long c = near(w, l + 1, costs, y, 0, 1);
            Check.due("C(" + y + ")" + at, x.levelCost(0, leads, costs, y), c);
            near = y > 0 && c < near(w, l + 1, costs, near, 0, 1) ? y : near;
        }
        Check.due("NEAR" + at, x.level(0, leads, costs), near);
        int far = 0;
        long least = 0;
        for (int y = -30; y <= 30; y += y < 0 ? 15 : 1) {
            long k = far(w, l + 1, m, costs, near, y, 1);
            Check.due("K(" + y + ")" + at, x.levelCost(1, leads, costs, y), k);
            if (y == 0 || y > 0 && k < least) {
                far = y;
                least = k;
            }
        }
        Check.due("FAR" + at, x.level(1, leads, costs), far);
    }

    private static long near(int[] w, int weeks, int costs, int y, int x, long weight) {
        int h = costs / 1000;
        int g = costs / 100 % 10;
        int b = costs % 100;
        if (y < -30) {
            return near(w, weeks, costs, -30, x, weight) + (b + g) * (-30L - y) * all(w, weeks);
        }
        if (weeks == 0) {
            return weight * (h * (y - x) + (x > y ? (b + h + g) * (x - y) : 0));
        }
        long sum = 0;
        for (int d = 0; d <= 4; d++) {
            if (w[d] > 0) {
                sum += near(w, weeks - 1, costs, y, x + d, weight * w[d]);
            }
        }
        return sum;
    }

    private static long all(int[] w, int weeks) {
        long product = 1;
        for (int i = 0; i < weeks; i++) {
            product *= w[0] + w[1] + w[2] + w[3] + w[4];
        }
        return product;
    }

    private static long far(int[] w, int nearWeeks, int weeks, int costs, int near, int y, long weight) {
        if (weeks == 0) {
            int g = costs / 100 % 10;
            return weight * (g * y * all(w, nearWeeks) + near(w, nearWeeks, costs, Math.min(near, y), 0, 1));
        }
        long sum = 0;
        for (int d = 0; d <= 4; d++) {
            if (w[d] > 0) {
                sum += far(w, nearWeeks, weeks - 1, costs, near, y - d, weight * w[d]);
            }
        }
        return sum;
    }
}
