/** Section 6 and promises 25 to 28: each bound of levels, just inside it and just outside it. */
public final class LevelEdgeTest {
    private static final long NO = Long.MIN_VALUE;
    private static final int LEAST = Integer.MIN_VALUE, MOST = Integer.MAX_VALUE;

    public static void main(String[] args) {
        weightsRefused();
        weightsTaken();
        weeksOfSums();
        sumsAtTheEnds();
        leads();
        costs();
        whichOnes();
        badAheadOfNone();
        levelsAtTheEnds();
        nearCostsOfOneSum();
        farCostsOfOneSum();
        greatestCosts();
        severalNearLevels();
        severalFarLevels();
        leastLevels();
        greatestLevels();
        Check.end("LevelEdgeTest");
    }

    /** "(0 .. 99999)": "BAD: all are 0, too." */
    private static void weightsRefused() {
        int[] bad = {LEAST, -99999, -1, 0, 100000, 100001, MOST};
        for (int weights : bad) {
            OrderEcho x = new OrderEcho();
            Check.due("chances " + weights, x.chances(weights), -2);
            for (int d = 0; d <= 4; d++) {
                Check.due("1 for each still", x.chance(1, d), 1);
            }
            x.chances(12345);
            Check.due("chances " + weights, x.chances(weights), -2);
            for (int d = 0; d <= 4; d++) {
                Check.due("as told before", x.chance(1, d), d + 1);
            }
        }
    }

    /** "as digits, that of 0 the highest": one of them alone, 1 and 9. */
    private static void weightsTaken() {
        int place = 10000;
        for (int d = 0; d <= 4; d++) {
            for (int weight = 1; weight <= 9; weight += 8) {
                OrderEcho x = new OrderEcho();
                Check.due("chances " + weight * place, x.chances(weight * place), 0);
                for (int other = 0; other <= 4; other++) {
                    Check.due("weight of " + other, x.chance(1, other), other == d ? weight : 0);
                }
                Check.due("weight of 5", x.chance(1, 5), 0);
            }
            place /= 10;
        }
        OrderEcho x = new OrderEcho();
        Check.due("99999", x.chances(99999), 0);
        for (int d = 0; d <= 4; d++) {
            Check.due("9 for each", x.chance(1, d), 9);
        }
    }

    /** "(n 1 .. 6). NO: n, x below 0." */
    private static void weeksOfSums() {
        OrderEcho x = new OrderEcho();
        int[] bad = {LEAST, -1, 0, 7, MOST};
        for (int n : bad) {
            Check.due("n " + n, x.chance(n, 0), NO);
            Check.due("n " + n, x.chance(n, 4), NO);
        }
        long[] middle = {1, 5, 19, 85, 381, 1751};
        for (int n = 1; n <= 6; n++) {
            Check.due("the middle of " + n, x.chance(n, 2 * n), middle[n - 1]);
            Check.due("x -1", x.chance(n, -1), NO);
            Check.due("the least x", x.chance(n, LEAST), NO);
        }
    }

    /** The least sum and the greatest, and beyond it, where there is no weight. */
    private static void sumsAtTheEnds() {
        for (int n = 1; n <= 6; n++) {
            OrderEcho x = new OrderEcho();
            x.chances(20003);
            long least = 1;
            long greatest = 1;
            for (int i = 0; i < n; i++) {
                least *= 2;
                greatest *= 3;
            }
            Check.due("sum 0 of " + n, x.chance(n, 0), least);
            Check.due("sum 1 of " + n, x.chance(n, 1), 0);
            Check.due("the greatest sum of " + n, x.chance(n, 4 * n), greatest);
            Check.due("1 beyond of " + n, x.chance(n, 4 * n + 1), 0);
            Check.due("25 of " + n, x.chance(n, 25), 0);
            Check.due("the most of " + n, x.chance(n, MOST), 0);
        }
        OrderEcho x = new OrderEcho();
        x.chances(99999);
        Check.due("9 to the 6th", x.chance(6, 24), 531441);
        Check.due("the greatest weight", x.chance(6, 12), 1751L * 531441);
    }

    private static void taken(OrderEcho x, int leads, int costs) {
        for (int which = 0; which <= 1; which++) {
            Check.holds("level " + which + " " + leads + " " + costs, x.level(which, leads, costs) >= 0);
            Check.holds("levelCost " + which + " " + leads + " " + costs, x.levelCost(which, leads, costs, 30) != NO);
        }
    }

    private static void refused(OrderEcho x, int leads, int costs) {
        for (int which = 0; which <= 1; which++) {
            Check.due("level " + which + " " + leads + " " + costs, x.level(which, leads, costs), -2);
            Check.due("levelCost " + which + " " + leads + " " + costs, x.levelCost(which, leads, costs, 0), NO);
        }
    }

    /** "With lead l, m (weeks, 1 .. 3)": "leads 10 l + m". */
    private static void leads() {
        OrderEcho x = new OrderEcho();
        for (int l = 0; l <= 4; l++) {
            for (int m = 0; m <= 9; m++) {
                if (l >= 1 && l <= 3 && m >= 1 && m <= 3) {
                    taken(x, 10 * l + m, 1101);
                } else {
                    refused(x, 10 * l + m, 1101);
                }
            }
        }
        int[] bad = {LEAST, -33, -12, -11, -1, 99, 100, 101, 111, 1011, MOST};
        for (int leads : bad) {
            refused(x, leads, 1101);
        }
    }

    /** "costs h, g (1 .. 9), b (1 .. 99)": "costs 1000 h + 100 g + b". */
    private static void costs() {
        OrderEcho x = new OrderEcho();
        int[] fine = {1101, 1199, 1901, 1999, 9101, 9199, 9901, 9999, 1110, 5550};
        for (int costs : fine) {
            taken(x, 11, costs);
        }
        int[] bad = {LEAST, -9999, -1101, -1, 0, 1, 99, 100, 101, 199, 999, 1000, 1001, 1099, 1100, 1200, 1900, 2000, 2001,
            9000, 9001, 9099, 9100, 9900, 10000, 10001, 10101, 11101, 101101, MOST};
        for (int costs : bad) {
            refused(x, 11, costs);
        }
    }

    /** "NEAR (which 0), FAR (1)": "NONE: which." */
    private static void whichOnes() {
        OrderEcho x = new OrderEcho();
        int[] none = {LEAST, -1, 2, MOST};
        for (int which : none) {
            Check.due("level " + which, x.level(which, 11, 1101), -1);
            Check.due("levelCost " + which, x.levelCost(which, 11, 1101, 0), NO);
        }
        taken(x, 11, 1101);
    }

    /** The promise tells BAD first, and then NONE. */
    private static void badAheadOfNone() {
        OrderEcho x = new OrderEcho();
        int[] none = {LEAST, -1, 2, MOST};
        for (int which : none) {
            Check.due("leads and which", x.level(which, 10, 1101), -2);
            Check.due("costs and which", x.level(which, 11, 1100), -2);
            Check.due("all of them", x.level(which, 10, 1100), -2);
        }
    }

    /** "a level y (-30 .. 30)". */
    private static void levelsAtTheEnds() {
        OrderEcho x = new OrderEcho();
        int[] bad = {LEAST, -42, -31, 31, 42, MOST};
        for (int which = 0; which <= 1; which++) {
            for (int y : bad) {
                Check.due("y " + y, x.levelCost(which, 11, 1101, y), NO);
                Check.due("y " + y, x.levelCost(which, 33, 9999, y), NO);
            }
            Check.holds("y -30", x.levelCost(which, 11, 1101, -30) != NO);
            Check.holds("y 30", x.levelCost(which, 11, 1101, 30) != NO);
        }
    }

    /** With DEMAND 4 alone, of weight 1, the sum of l + 1 weeks is 4 (l + 1): C(y) on both sides of it. */
    private static void nearCostsOfOneSum() {
        int h = 3;
        int g = 5;
        int b = 70;
        for (int l = 1; l <= 3; l++) {
            OrderEcho x = new OrderEcho();
            x.chances(1);
            int sum = 4 * (l + 1);
            int leads = 10 * l + 1;
            for (int y = -30; y <= 30; y++) {
                long due = y >= sum ? h * (y - sum) : (b + g) * (sum - y);
                Check.due("C(" + y + ")", x.levelCost(0, leads, 3570, y), due);
            }
            Check.due("NEAR", x.level(0, leads, 3570), sum);
        }
    }

    /** Likewise K(y), with levels of the near stage down to -42: "For a y below -30 C(y) is C(-30), and ..". */
    private static void farCostsOfOneSum() {
        int g = 5;
        int b = 70;
        for (int m = 1; m <= 3; m++) {
            OrderEcho x = new OrderEcho();
            x.chances(1);
            int near = 8;
            for (int y = -30; y <= 30; y++) {
                int left = y - 4 * m;
                int level = Math.min(near, left);
                long c = (b + g) * (near - Math.max(-30, level)) + (level < -30 ? (b + g) * (-30 - level) : 0);
                Check.due("K(" + y + ")", x.levelCost(1, 10 + m, 3570, y), g * left + c);
            }
            Check.due("FAR", x.level(1, 10 + m, 3570), near + 4 * m);
        }
    }

    /** The greatest weights, leads and costs: 45 to the 7th sums. */
    private static void greatestCosts() {
        OrderEcho x = new OrderEcho();
        x.chances(9);
        long near = 9L * 9 * 9 * 9;
        long far = 9L * 9 * 9;
        Check.due("C(-30)", x.levelCost(0, 33, 9999, -30), near * 108 * 46);
        Check.due("C(30)", x.levelCost(0, 33, 9999, 30), near * 9 * 14);
        Check.due("K(-30)", x.levelCost(1, 33, 9999, -30), far * near * (9 * -42 + 108 * 58));
        Check.due("K(30)", x.levelCost(1, 33, 9999, 30), far * near * (9 * 18));
        x.chances(99999);
        Check.due("C(-30), all weights 9", x.levelCost(0, 33, 9999, -30), 45L * 45 * 45 * 45 * 108 * 38);
        Check.due("K(-30), all weights 9", x.levelCost(1, 33, 9999, -30),
            45L * 45 * 45 * 45 * 45 * 45 * 45 * (9 * -36 + 108 * 44));
    }

    private static void leastOf(OrderEcho x, int which, int leads, int costs, int due, int last) {
        Check.due("the least of several", x.level(which, leads, costs), due);
        long least = x.levelCost(which, leads, costs, due);
        for (int y = 0; y <= 30; y++) {
            long here = x.levelCost(which, leads, costs, y);
            Check.holds("level " + y, y >= due && y <= last ? here == least : here > least);
        }
    }

    /** "NEAR: the y 0 .. 30 with the least C, the least of several." */
    private static void severalNearLevels() {
        OrderEcho x = new OrderEcho();
        x.chances(10001);
        leastOf(x, 0, 11, 1102, 4, 8);
        leastOf(x, 0, 11, 1101, 4, 4);
        leastOf(x, 0, 11, 1103, 8, 8);
        x.chances(10000);
        leastOf(x, 0, 11, 1102, 0, 0);
    }

    /** "FAR: the y 0 .. 30 with the least K, the least of several." */
    private static void severalFarLevels() {
        OrderEcho x = new OrderEcho();
        x.chances(11);
        leastOf(x, 1, 11, 1110, 11, 12);
        x.chances(10102);
        leastOf(x, 1, 11, 1110, 10, 12);
        x.chances(15060);
        leastOf(x, 1, 11, 1110, 7, 9);
        x.chances(60015);
        leastOf(x, 1, 11, 2305, 4, 6);
    }

    /** Without a demand both levels are 0, though a level below 0 may cost less than one above. */
    private static void leastLevels() {
        OrderEcho x = new OrderEcho();
        x.chances(90000);
        for (int lead = 11; lead <= 33; lead += 11) {
            Check.due("NEAR", x.level(0, lead, 9901), 0);
            Check.due("FAR", x.level(1, lead, 9901), 0);
            Check.due("C(0)", x.levelCost(0, lead, 9901, 0), 0);
            Check.due("K(0)", x.levelCost(1, lead, 9901, 0), 0);
        }
    }

    /** The greatest demand each week: 16 for the near stage, 28 for both. */
    private static void greatestLevels() {
        OrderEcho x = new OrderEcho();
        x.chances(1);
        Check.due("NEAR", x.level(0, 33, 1199), 16);
        Check.due("FAR", x.level(1, 33, 1199), 28);
        Check.due("NEAR", x.level(0, 33, 9901), 16);
        Check.due("FAR", x.level(1, 33, 9901), 28);
        Check.due("NEAR", x.level(0, 11, 1101), 8);
        Check.due("FAR", x.level(1, 11, 1101), 12);
    }
}
