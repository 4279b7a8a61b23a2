/** Sections 1 and 5, promises 18 to 24: each bound of swings, fractions and polynomials, inside and outside it. */
public final class SwingEdgeTest {
    private static final long NO = Long.MIN_VALUE, SPENT = Long.MIN_VALUE + 1;
    private static final int LEAST = Integer.MIN_VALUE, MOST = Integer.MAX_VALUE;

    public static void main(String[] args) {
        weeksThatWentBy();
        weeksThatAreKept();
        swingsOfNone();
        gainsOfNone();
        gainWithNothingBelow();
        gainIsCutShort();
        gainAboveAtTheEdge();
        gainBelowAtTheEdge();
        sharesByEach();
        sharesRefused();
        manyWeeksOfM();
        echoNumbers();
        loudNumbers();
        poleNumbers();
        echoesAtTheEdge();
        echoesBeyond();
        loudnessAtTheEdge();
        polesAtTheEdge();
        polesAsWorkedOut();
        Check.end("SwingEdgeTest");
    }

    private static OrderEcho shop() {
        OrderEcho x = new OrderEcho();
        x.stage(0, 0, 1, 0, 0);
        x.stage(3, 0, 1, 0, 0);
        x.use(1, Check.rule(x, "seen*2+1"));
        return x;
    }

    private static void weeksBy(OrderEcho x, int n, int d) {
        for (int left = n; left > 0; left -= 20) {
            x.weeks(Math.min(20, left), d);
        }
    }

    /** "NO: .. n not 2 .. 40, fewer weeks went by": for each number of weeks the most that there is. */
    private static void weeksThatWentBy() {
        OrderEcho x = shop();
        Check.due("no week went by", x.swing(1, 0, 2), NO);
        long sum = 0;
        long squares = 0;
        for (int w = 1; w <= 40; w++) {
            x.demand(1, w * w % 13);
            x.week();
            sum += w * w % 13;
            squares += (w * w % 13) * (w * w % 13);
            Check.due(w + " of " + w, x.swing(1, 0, w), w < 2 ? NO : w * squares - sum * sum);
            Check.due(w + " of " + w + ", ORDERED", x.swing(1, 1, w), w < 2 ? NO : 4 * (w * squares - sum * sum));
            Check.due("one more than " + w, x.swing(1, 0, w + 1), NO);
            Check.due("one more than " + w + ", GAIN", x.gain(1, w + 1, 0), NO);
        }
        int[] bad = {LEAST, -2, -1, 0, 1, 41, 42, MOST};
        for (int n : bad) {
            Check.due("n " + n, x.swing(1, 0, n), NO);
            Check.due("n " + n, x.swing(1, 1, n), NO);
            Check.due("n " + n + ", GAIN", x.gain(1, n, 0), NO);
            Check.due("n " + n + ", GAIN", x.gain(1, n, 1), NO);
        }
    }

    /** "40 are kept": what was ahead of them shows no more, after any number of weeks. */
    private static void weeksThatAreKept() {
        int[] all = {40, 41, 79, 80, 81, 399, 400};
        for (int weeks : all) {
            OrderEcho x = shop();
            weeksBy(x, weeks - 40, 999);
            x.demand(1, 7);
            x.week();
            weeksBy(x, 39, 0);
            Check.due("weeks", x.count(2), weeks);
            Check.due("the first one that is kept", x.swing(1, 0, 40), 40 * 49 - 49);
            Check.due("ORDERED", x.swing(1, 1, 40), 4 * (40 * 49 - 49));
            Check.due("GAIN", x.gain(1, 40, 0), 4);
            Check.due("without it", x.swing(1, 0, 39), 0);
            Check.due("41", x.swing(1, 0, 41), NO);
            if (weeks < 400) {
                x.week();
                Check.due("it is gone", x.swing(1, 0, 40), 0);
            }
        }
    }

    private static void swingsOfNone() {
        OrderEcho x = shop();
        x.demand(1, 1);
        x.weeks(1, 3);
        x.weeks(1, 4);
        Check.due("SAW", x.swing(1, 0, 2), 1);
        Check.due("ORDERED", x.swing(1, 1, 2), 4);
        Check.due("STAGE 0 SAW", x.swing(0, 0, 2), 49);
        Check.due("STAGE 0 ORDERED", x.swing(0, 1, 2), 0);
        int[] none = {LEAST, -1, 2, MOST};
        for (int v : none) {
            Check.due("STAGE " + v, x.swing(v, 0, 2), NO);
            Check.due("what " + v, x.swing(1, v, 2), NO);
        }
    }

    private static void gainsOfNone() {
        OrderEcho x = shop();
        x.weeks(1, 3);
        x.weeks(1, 4);
        Check.due("above", x.gain(1, 2, 0), 4);
        Check.due("below", x.gain(1, 2, 1), 1);
        int[] none = {LEAST, -1, 2, MOST};
        for (int v : none) {
            Check.due("STAGE " + v, x.gain(v, 2, 0), NO);
            Check.due("what " + v, x.gain(1, 2, v), NO);
        }
    }

    /** "NO: likewise, SWING of what it SAW is 0." */
    private static void gainWithNothingBelow() {
        OrderEcho x = shop();
        x.weeks(1, 5);
        x.use(1, -1);
        x.weeks(1, 5);
        Check.due("it SAW the same", x.swing(1, 0, 2), 0);
        Check.due("and ORDERED others", x.swing(1, 1, 2), 121);
        Check.due("above", x.gain(1, 2, 0), NO);
        Check.due("below", x.gain(1, 2, 1), NO);
        x.weeks(1, 6);
        Check.due("1 more: above", x.gain(1, 2, 0), 0);
        Check.due("1 more: below", x.gain(1, 2, 1), 1);
        Check.due("what it SAW swings by 2", x.swing(1, 0, 3), 2);
        Check.due("above", x.gain(1, 3, 0), 121);
        Check.due("below", x.gain(1, 3, 1), 1);
        OrderEcho y = shop();
        y.use(1, -1);
        y.weeks(2, 0);
        Check.due("0 by 0: above", y.gain(0, 2, 0), NO);
        Check.due("0 by 0: below", y.gain(0, 2, 1), NO);
    }

    /** "without a common divisor, below above 0". */
    private static void gainIsCutShort() {
        int[][] rows = {{1, 1, 1, 1}, {2, 1, 4, 1}, {1, 2, 1, 4}, {6, 4, 9, 4}, {4, 6, 4, 9}, {0, 5, 0, 1}};
        for (int[] row : rows) {
            OrderEcho x = shop();
            x.use(1, Check.rule(x, "seen*" + row[0] + "/" + row[1]));
            x.weeks(1, 0);
            x.weeks(1, 60);
            Check.due("above", x.gain(1, 2, 0), row[2]);
            Check.due("below", x.gain(1, 2, 1), row[3]);
        }
    }

    /** A shop that sees 1 once in n weeks and orders these three and then nothing. */
    private static OrderEcho seldom(int n, int... orders) {
        OrderEcho x = new OrderEcho();
        x.stage(0, 0, 1, 0, 0);
        x.stage(3, 0, 1, 0, 0);
        x.demand(1, 1);
        for (int order : orders) {
            x.use(1, Check.rule(x, "" + order));
            x.week();
        }
        x.use(1, -1);
        weeksBy(x, n - orders.length, 0);
        return x;
    }

    /** "a number beyond 1000000000": above the line just that, and 1 more. */
    private static void gainAboveAtTheEdge() {
        OrderEcho x = seldom(14, 8827, 801, 698);
        Check.due("SWING of just 1000000000", x.swing(1, 1, 14), 1000000000L);
        Check.due("just 1000000000: above", x.gain(1, 14, 0), 1000000000L);
        Check.due("just 1000000000: below", x.gain(1, 14, 1), 13);
        OrderEcho y = seldom(10, 9995, 4722, 3076);
        Check.due("SWING of 1 more", y.swing(1, 1, 10), 1000000001L);
        Check.due("1 more: above", y.gain(1, 10, 0), SPENT);
        Check.due("1 more: below", y.gain(1, 10, 1), SPENT);
        OrderEcho z = seldom(14, 8773, 1645, 1139);
        Check.due("SWING of 1 more, with a common divisor", z.swing(1, 1, 14), 1000000001L);
        Check.due("by 13: above", z.gain(1, 14, 0), 76923077L);
        Check.due("by 13: below", z.gain(1, 14, 1), 1);
    }

    /** Stage 0 sees these orders, and orders 1 once itself. */
    private static OrderEcho seldomMade(int n, int... orders) {
        OrderEcho x = seldom(3, orders);
        x.use(0, Check.rule(x, "1"));
        x.week();
        x.use(0, -1);
        weeksBy(x, n - 3, 0);
        return x;
    }

    /** Below the line just 1000000000, and 1 more. */
    private static void gainBelowAtTheEdge() {
        OrderEcho x = seldomMade(14, 8827, 801, 698);
        Check.due("SWING of just 1000000000", x.swing(0, 0, 14), 1000000000L);
        Check.due("just 1000000000: above", x.gain(0, 14, 0), 13);
        Check.due("just 1000000000: below", x.gain(0, 14, 1), 1000000000L);
        OrderEcho y = seldomMade(10, 9995, 4722, 3076);
        Check.due("SWING of 1 more", y.swing(0, 0, 10), 1000000001L);
        Check.due("1 more: above", y.gain(0, 10, 0), SPENT);
        Check.due("1 more: below", y.gain(0, 10, 1), SPENT);
    }

    /** "t, a are fractions (0 .. 2, by 1 .. 20)": for each below 0 and 2, and just above 2. */
    private static void sharesByEach() {
        for (int below = 1; below <= 20; below++) {
            OrderEcho x = new OrderEcho();
            Check.due("t 0 by " + below, x.straight(below, 101, 1), 0);
            Check.due("t is 0", x.echo(0, 0), 2);
            Check.due("t 2 by " + below, x.straight(200 * below + below, 101, 1), 0);
            Check.due("t is 2", x.echo(0, 0), 4);
            Check.due("t above 2 by " + below, x.straight(200 * below + 100 + below, 101, 1), -2);
            Check.due("t is 2 still", x.echo(0, 0), 4);
            Check.due("a 0 by " + below, x.straight(101, below, 1), 0);
            Check.due("a is 0", x.echo(0, 0), 1);
            Check.due("a 2 by " + below, x.straight(101, 200 * below + below, 1), 0);
            Check.due("a is 2", x.echo(0, 0), 5);
            Check.due("a above 2 by " + below, x.straight(101, 200 * below + 100 + below, 1), -2);
            Check.due("a is 2 still", x.echo(0, 0), 5);
            Check.due("t -1 by " + below, x.straight(-100 + below, 101, 1), -2);
            Check.due("a -1 by " + below, x.straight(101, -100 + below, 1), -2);
            Check.due("t 1 by " + below, x.straight(100 + below, 1, 1), 0);
            Check.due("1 - t", x.pole(1, 1, 0), below == 1 ? -1 : -(2 * below - 1));
            Check.due("1 - t by", x.pole(1, 1, 1), below);
        }
    }

    private static void sharesRefused() {
        int[] bad = {LEAST, LEAST + 1, -101, -100, -1, 0, 21, 22, 99, 100, 121, 199, 200, 2021, 301, 4120, MOST - 46,
            MOST};
        for (int v : bad) {
            OrderEcho x = new OrderEcho();
            x.straight(103, 102, 3);
            Check.due("t " + v, x.straight(v, 101, 1), -2);
            Check.due("a " + v, x.straight(101, v, 1), -2);
            Check.due("both " + v, x.straight(v, v, 1), -2);
            Check.due("as it was: 0", x.echo(0, 0), 2);
            Check.due("as it was: 1", x.echo(1, 0), -1);
            Check.due("as it was: 1", x.echo(1, 1), 6);
        }
    }

    /** "m 1 .. 8". */
    private static void manyWeeksOfM() {
        OrderEcho x = new OrderEcho();
        for (int m = 1; m <= 8; m++) {
            Check.due("m " + m, x.straight(101, 101, m), 0);
            Check.due("D + m F - P", x.echo(0, 0), 2 + m);
        }
        int[] bad = {LEAST, -1, 0, 9, MOST};
        for (int m : bad) {
            Check.due("m " + m, x.straight(201, 201, m), -2);
            Check.due("8 still", x.echo(0, 0), 10);
        }
    }

    /** "ECHO k (0 .. 30)", what 0 and 1; with t 0 and a 2 it is 4, and less than 0 each second week. */
    private static void echoNumbers() {
        OrderEcho x = new OrderEcho();
        x.straight(1, 201, 1);
        for (int k = 0; k <= 30; k++) {
            Check.due("echo " + k, x.echo(k, 0), k == 0 ? 3 : k % 2 == 0 ? 4 : -4);
            Check.due("echo " + k + " below", x.echo(k, 1), 1);
        }
        int[] none = {LEAST, -1, 31, MOST};
        for (int k : none) {
            Check.due("echo " + k, x.echo(k, 0), NO);
            Check.due("echo " + k + " below", x.echo(k, 1), NO);
        }
        int[] whats = {LEAST, -1, 2, MOST};
        for (int what : whats) {
            Check.due("what " + what, x.echo(0, what), NO);
            Check.due("what " + what, x.echo(30, what), NO);
        }
    }

    /** "LOUDNESS over n weeks (1 .. 30)". */
    private static void loudNumbers() {
        OrderEcho x = new OrderEcho();
        x.straight(1, 201, 1);
        for (int n = 1; n <= 30; n++) {
            Check.due("loud " + n, x.loud(n, 0), 9 + 16 * (n - 1));
            Check.due("loud " + n + " below", x.loud(n, 1), 1);
        }
        int[] none = {LEAST, -1, 0, 31, MOST};
        for (int n : none) {
            Check.due("loud " + n, x.loud(n, 0), NO);
            Check.due("loud " + n + " below", x.loud(n, 1), NO);
        }
        int[] whats = {LEAST, -1, 2, MOST};
        for (int what : whats) {
            Check.due("what " + what, x.loud(1, what), NO);
            Check.due("what " + what, x.loud(30, what), NO);
        }
    }

    /** "Coefficient i (0 .. 2) of ABOVE (which 0), BELOW (1)." */
    private static void poleNumbers() {
        OrderEcho x = new OrderEcho();
        x.straight(103, 102, 3);
        long[][] above = {{2, -5, 2}, {1, -7, 1}};
        long[][] below = {{1, 2, 3}, {1, 6, 3}};
        for (int which = 0; which <= 1; which++) {
            for (int i = 0; i <= 2; i++) {
                Check.due("pole " + which + " " + i, x.pole(which, i, 0), above[which][i]);
                Check.due("pole " + which + " " + i + " below", x.pole(which, i, 1), below[which][i]);
            }
        }
        int[] none = {LEAST, -1, 2, 3, MOST};
        for (int v : none) {
            Check.due("which " + v, x.pole(v, 0, 0), NO);
            Check.due("i " + v, x.pole(0, v == 2 ? 3 : v, 0), NO);
            Check.due("i " + v, x.pole(1, v == 2 ? 3 : v, 0), NO);
            Check.due("what " + v, x.pole(0, 0, v), NO);
            Check.due("what " + v, x.pole(1, 2, v), NO);
        }
    }

    /** The greatest numbers of all echoes that are not SPENT: t, a, m, k, what is above, below. */
    private static void echoesAtTheEdge() {
        long[][] rows = {
            {3117, 2313, 8, 2, 999981994L, 10793861L}, {1409, 2417, 2, 3, -999996704L, 182660427L},
            {1, 110, 1, 8, -4782969L, 1000000000L}};
        for (long[] row : rows) {
            OrderEcho x = new OrderEcho();
            x.straight((int) row[0], (int) row[1], (int) row[2]);
            Check.due("above", x.echo((int) row[3], 0), row[4]);
            Check.due("below", x.echo((int) row[3], 1), row[5]);
        }
        int[][] onTheWay = {
            {110, 1, 1, 8}, {411, 716, 7, 3}, {710, 1106, 5, 7}, {102, 805, 2, 9}, {3518, 310, 2, 4},
            {3116, 1617, 4, 3}, {3319, 1, 4, 6}, {2313, 1, 4, 7}, {3419, 1, 1, 6}, {2312, 1, 1, 7}};
        for (int[] row : onTheWay) {
            OrderEcho x = new OrderEcho();
            x.straight(row[0], row[1], row[2]);
            Check.holds("not SPENT yet", x.echo(row[3], 0) != SPENT && x.echo(row[3], 1) != SPENT);
        }
    }

    /** Each week ahead is not SPENT; in this one a number is beyond, of the fraction that is told or of all. */
    private static void echoesBeyond() {
        Object[][] rows = {
            {"O above 0", 1920, 2315, 3, 4}, {"O below 0", 2716, 815, 5, 3}, {"O by", 102, 113, 8, 6},
            {"P and O above 0", 819, 409, 8, 3}, {"P and O below 0", 1910, 2314, 7, 3}, {"P and O by", 104, 320, 1, 7},
            {"m F - P above 0", 2319, 1912, 4, 4}, {"m F - P below 0", 3719, 1914, 5, 3},
            {"m F - P by", 1714, 1615, 5, 4}, {"m F above 0", 1709, 209, 4, 8}, {"m F below 0", 1307, 107, 8, 9},
            {"t (D - F) above 0", 3317, 1, 1, 6}, {"t (D - F) below 0", 2413, 1, 1, 7}, {"t (D - F) by", 910, 1, 1, 9},
            {"F by", 102, 1, 8, 29}, {"P and O just above", 1207, 1514, 5, 6}};
        for (Object[] row : rows) {
            OrderEcho x = new OrderEcho();
            x.straight((Integer) row[1], (Integer) row[2], (Integer) row[3]);
            int k = (Integer) row[4];
            for (int before = 0; before < k; before++) {
                Check.holds(row[0] + ": week " + before, x.echo(before, 0) != SPENT && x.echo(before, 1) != SPENT);
            }
            for (int after = k; after <= 30; after++) {
                Check.due(row[0] + ": above", x.echo(after, 0), SPENT);
                Check.due(row[0] + ": by", x.echo(after, 1), SPENT);
            }
            Check.due(row[0] + ": LOUDNESS", x.loud(30, 0), SPENT);
            Check.due("NO ahead of SPENT", x.echo(31, 0), NO);
            Check.due("NO ahead of SPENT", x.echo(k, 2), NO);
            x.straight(101, 101, 1);
            Check.due("another straight rule", x.echo(30, 1), 1);
        }
    }

    /** The greatest loudness, the sum alone beyond, and a square alone beyond. */
    private static void loudnessAtTheEdge() {
        OrderEcho x = new OrderEcho();
        x.straight(2213, 1317, 3);
        Check.due("above", x.loud(2, 0), 999974257L);
        Check.due("below", x.loud(2, 1), 14115049L);
        x.straight(109, 119, 1);
        Check.due("above", x.loud(2, 0), 957968245L);
        Check.due("below", x.loud(2, 1), 855036081L);
        int[][] beyond = {{1312, 2113, 8, 2}, {104, 720, 1, 4}, {2215, 1920, 4, 2}, {104, 120, 1, 4}};
        for (int[] row : beyond) {
            x.straight(row[0], row[1], row[2]);
            int n = row[3];
            Check.holds("no ECHO is SPENT", x.echo(n - 1, 0) != SPENT && x.echo(n - 1, 1) != SPENT);
            Check.holds("a week ahead", x.loud(n - 1, 0) != SPENT && x.loud(n - 1, 1) != SPENT);
            Check.due("above", x.loud(n, 0), SPENT);
            Check.due("below", x.loud(n, 1), SPENT);
            Check.due("a week on", x.loud(n + 1, 0), SPENT);
            Check.due("NO ahead of SPENT", x.loud(31, 0), NO);
            Check.due("NO ahead of SPENT", x.loud(n, 2), NO);
        }
    }

    /** A product alone, a sum on the way alone, and an ECHO; what is worked out without them is there. */
    private static void polesAtTheEdge() {
        OrderEcho x = new OrderEcho();
        x.straight(3017, 3019, 3);
        Check.due("a product of -999936000 by 33698267", x.pole(0, 2, 0), -13);
        Check.due("a product of -999936000 by 33698267", x.pole(0, 2, 1), 17);
        int[][] beyond = {{3719, 2011, 6}, {3518, 3419, 8}, {1911, 3920, 8}};
        for (int[] row : beyond) {
            x.straight(row[0], row[1], row[2]);
            Check.due("above", x.pole(0, 2, 0), SPENT);
            Check.due("below", x.pole(0, 2, 1), SPENT);
            Check.due("NO ahead of SPENT", x.pole(0, 2, 2), NO);
            for (int i = 0; i <= 1; i++) {
                Check.holds("pole 0 " + i, x.pole(0, i, 0) != SPENT && x.pole(0, i, 1) != SPENT);
            }
            for (int i = 0; i <= 2; i++) {
                Check.holds("pole 1 " + i, x.pole(1, i, 0) != SPENT && x.pole(1, i, 1) != SPENT);
            }
        }
    }

    /** ABOVE is 1 + a + a m t, less z (1 + (1 + a) (1 - t) + a m t), and z z (1 - t): at the ends of t, a and m. */
    private static void polesAsWorkedOut() {
        int[] shares = {1, 20, 101, 201, 119, 3720, 4020, 120};
        int[] many = {1, 8};
        for (int t : shares) {
            for (int a : shares) {
                for (int m : many) {
                    OrderEcho x = new OrderEcho();
                    x.straight(t, a, m);
                    comparePoles(x, t / 100, t % 100, a / 100, a % 100, m);
                }
            }
        }
    }

    private static void comparePoles(OrderEcho x, long t, long tBy, long a, long aBy, long m) {
        long by = tBy * aBy;
        long first = by + a * tBy + a * m * t;
        long second = -(by + (aBy + a) * (tBy - t) + a * m * t);
        fraction("ABOVE 0", x.pole(0, 0, 0), x.pole(0, 0, 1), first, by);
        fraction("ABOVE 1", x.pole(0, 1, 0), x.pole(0, 1, 1), second, by);
        if (x.pole(0, 2, 0) != SPENT) {
            fraction("ABOVE 2", x.pole(0, 2, 0), x.pole(0, 2, 1), tBy - t, tBy);
        }
        fraction("BELOW 0", x.pole(1, 0, 0), x.pole(1, 0, 1), 1, 1);
        fraction("BELOW 1", x.pole(1, 1, 0), x.pole(1, 1, 1), -(tBy - t) * aBy - (aBy - a) * tBy, by);
        fraction("BELOW 2", x.pole(1, 2, 0), x.pole(1, 2, 1), (tBy - t) * (aBy - a), by);
    }

    /** The same fraction, told without a common divisor. */
    private static void fraction(String what, long above, long below, long up, long down) {
        java.math.BigInteger divisor = java.math.BigInteger.valueOf(up).gcd(java.math.BigInteger.valueOf(down));
        Check.due(what + ": above", above, up / divisor.longValue());
        Check.due(what + ": below", below, down / divisor.longValue());
    }
}
