/** Promises 18 to 24, and sections 1 and 5: swings, straight rules, polynomials. */
public final class SwingTest {
    private static final long NO = Long.MIN_VALUE, SPENT = Long.MIN_VALUE + 1;

    public static void main(String[] args) {
        swings();
        gains();
        spentGain();
        justNotSpent();
        straight();
        echoes();
        spentOnTheWay();
        poles();
        loudness();
        steady();
        Check.end("SwingTest");
    }

    private static void swings() {
        OrderEcho x = new OrderEcho();
        x.stage(0, 0, 1, 0, 0);
        x.stage(3, 0, 1, 0, 0);
        Check.rule(x, "seen*2+1");
        x.use(1, 0);
        Check.due("no weeks", x.swing(1, 0, 2), NO);
        x.demand(1, 3);
        x.week();
        Check.due("one week", x.swing(1, 0, 2), NO);
        x.demand(1, 7);
        x.week();
        Check.due("two weeks", x.swing(1, 0, 2), 2 * (9 + 49) - 100);
        Check.due("ordered", x.swing(1, 1, 2), 4 * 16);
        Check.due("three", x.swing(1, 0, 3), NO);
        Check.due("one", x.swing(1, 0, 1), NO);
        Check.due("what 2", x.swing(1, 2, 2), NO);
        Check.due("what -1", x.swing(1, -1, 2), NO);
        Check.due("no stage", x.swing(2, 0, 2), NO);
        Check.due("no stage -1", x.swing(-1, 0, 2), NO);
        x.weeks(20, 5);
        x.weeks(18, 5);
        Check.due("the latest", x.swing(1, 0, 38), 0);
        Check.due("39", x.swing(1, 0, 39), 39 * (38 * 25 + 49) - (190 + 7) * (190 + 7));
        Check.due("40", x.swing(1, 0, 40), 40 * (38 * 25 + 49 + 9) - 200 * 200);
        x.week();
        Check.due("41", x.swing(1, 0, 41), NO);
        Check.due("the oldest goes", x.swing(1, 0, 40), 40 * (38 * 25 + 49) - 197 * 197);
    }

    private static void gains() {
        OrderEcho x = new OrderEcho();
        x.stage(0, 0, 1, 0, 0);
        x.stage(3, 0, 1, 0, 0);
        Check.rule(x, "seen*3/2");
        x.use(1, 0);
        x.weeks(2, 4);
        Check.due("seen does not swing", x.gain(1, 2, 0), NO);
        x.demand(1, 8);
        x.week();
        Check.due("above", x.gain(1, 3, 0), 9);
        Check.due("below", x.gain(1, 3, 1), 4);
        Check.due("what 2", x.gain(1, 3, 2), NO);
        Check.due("what -1", x.gain(1, 3, -1), NO);
        Check.due("n 4", x.gain(1, 4, 0), NO);
        Check.due("n 1", x.gain(1, 1, 0), NO);
        Check.due("no stage", x.gain(2, 3, 0), NO);
        x.use(1, -1);
        x.demand(1, 9);
        x.week();
        x.week();
        Check.due("0 above", x.gain(1, 2, 0), 0);
        Check.due("1 below", x.gain(1, 2, 1), 1);
    }

    /** 16 times the square of 9999 by 7, which have no common divisor. */
    private static void spentGain() {
        OrderEcho x = new OrderEcho();
        x.stage(0, 0, 1, 0, 0);
        x.stage(3, 0, 1, 0, 0);
        Check.rule(x, "9999*seen");
        x.use(1, 0);
        x.week();
        x.demand(1, 1);
        x.week();
        Check.due("99980001 by 1", x.gain(1, 2, 0), 99980001L);
        Check.rule(x, "(week-2)/4*9999");
        x.use(1, 1);
        x.demand(1, 1);
        x.weeks(8, 0);
        x.demand(1, 1);
        Check.due("seen does not swing", x.gain(1, 8, 0), NO);
        x.use(1, -1);
        x.week();
        Check.due("seen swings by 7", x.swing(1, 0, 8), 7);
        Check.due("orders swing", x.swing(1, 1, 8), 16 * 99980001L);
        Check.due("spent above", x.gain(1, 8, 0), SPENT);
        Check.due("spent below", x.gain(1, 8, 1), SPENT);
    }

    private static void justNotSpent() {
        OrderEcho x = new OrderEcho();
        x.stage(0, 0, 1, 0, 0);
        x.stage(3, 0, 1, 0, 0);
        String[] texts = {"8", "3084", "8452"};
        x.demand(1, 1);
        for (int i = 0; i < texts.length; i++) {
            x.use(1, Check.rule(x, texts[i]));
            x.week();
        }
        x.use(1, -1);
        x.weeks(11, 0);
        Check.due("1000000000 by 13: above", x.gain(1, 14, 0), 1000000000L);
        Check.due("1000000000 by 13: below", x.gain(1, 14, 1), 13);
    }

    private static void straight() {
        OrderEcho x = new OrderEcho();
        int[] bad = {-1, 0, 100, 121, 199, 301, 4120, 502, Integer.MIN_VALUE, Integer.MAX_VALUE};
        for (int v : bad) {
            Check.due("t " + v, x.straight(v, 101, 1), -2);
            Check.due("a " + v, x.straight(101, v, 1), -2);
        }
        Check.due("m 0", x.straight(101, 101, 0), -2);
        Check.due("m 9", x.straight(101, 101, 9), -2);
        Check.due("as at first", x.echo(0, 0), 3);
        int[] fine = {1, 20, 201, 4020, 119, 402, 2};
        for (int v : fine) {
            Check.due("t " + v, x.straight(v, 101, 8), 0);
            Check.due("a " + v, x.straight(101, v, 8), 0);
        }
        x.straight(101, 201, 1);
        Check.due("a 2", x.echo(0, 0), 5);
        Check.due("bad", x.straight(101, 301, 1), -2);
        Check.due("nothing changed", x.echo(0, 0), 5);
    }

    private static void echoes() {
        OrderEcho x = new OrderEcho();
        long[] first = {3, -2, 0, 0};
        for (int k = 0; k < first.length; k++) {
            Check.due("echo " + k, x.echo(k, 0), first[k]);
            Check.due("below " + k, x.echo(k, 1), 1);
        }
        Check.due("echo 30", x.echo(30, 0), 0);
        Check.due("echo 31", x.echo(31, 0), NO);
        Check.due("echo -1", x.echo(-1, 0), NO);
        Check.due("what 2", x.echo(0, 2), NO);
        Check.due("what -1", x.echo(0, -1), NO);
        x.straight(102, 1, 4);
        Check.due("a 0: what it sees", x.echo(0, 0), 1);
        Check.due("a 0: what it sees", x.echo(1, 0), 0);
        x.straight(1, 102, 1);
        Check.due("t 0: above", x.echo(0, 0), 3);
        Check.due("t 0: below", x.echo(0, 1), 2);
        Check.due("t 0: above", x.echo(1, 0), -1);
        Check.due("t 0: below", x.echo(1, 1), 4);
        Check.due("t 0: 2 to the 30th is too much", x.echo(29, 0), SPENT);
        Check.due("spent", x.echo(30, 1), SPENT);
        x.straight(201, 201, 1);
        Check.due("no way is lost: 0", x.echo(0, 0), 7);
        Check.due("no way is lost: 1", x.echo(1, 0), -16);
        x.straight(101, 101, 8);
        Check.due("m 8", x.echo(0, 0), 1 + 8 + 1);
        x.straight(1, 110, 1);
        Check.due("just 1000000000 below", x.echo(8, 1), 1000000000L);
        Check.due("and above", x.echo(8, 0), -4782969L);
        Check.due("beyond", x.echo(9, 0), SPENT);
    }

    /** In each of these weeks one fraction alone is beyond 1000000000, and the order is not. */
    private static void spentOnTheWay() {
        int[][] rows = {{102, 706, 3, 11}, {102, 1609, 3, 7}, {1307, 107, 8, 9}, {1910, 1, 1, 8}, {102, 1, 8, 29}};
        for (int[] row : rows) {
            OrderEcho x = new OrderEcho();
            x.straight(row[0], row[1], row[2]);
            int k = row[3];
            Check.holds("not yet spent", x.echo(k - 1, 0) != SPENT && x.echo(k - 1, 1) != SPENT);
            Check.due("P and O, m F - P, m F, t (D - F), F: above", x.echo(k, 0), SPENT);
            Check.due("P and O, m F - P, m F, t (D - F), F: below", x.echo(k, 1), SPENT);
            Check.due("and so is the next one", x.echo(k + 1, 0), SPENT);
            Check.due("and loudness", x.loud(Math.min(30, k + 1), 0), SPENT);
        }
    }

    private static void poles() {
        OrderEcho x = new OrderEcho();
        long[][] due = {{3, -2, 0}, {1, 0, 0}};
        for (int which = 0; which < 2; which++) {
            for (int i = 0; i < 3; i++) {
                Check.due("pole " + which + " " + i, x.pole(which, i, 0), due[which][i]);
                Check.due("pole below " + which + " " + i, x.pole(which, i, 1), 1);
            }
        }
        Check.due("which 2", x.pole(2, 0, 0), NO);
        Check.due("which -1", x.pole(-1, 0, 0), NO);
        Check.due("i 3", x.pole(0, 3, 0), NO);
        Check.due("i -1", x.pole(1, -1, 0), NO);
        Check.due("what 2", x.pole(0, 0, 2), NO);
        Check.due("what -1", x.pole(0, 0, -1), NO);
        x.straight(4020, 1, 1);
        Check.due("below 1: -((1 - 2) + (1 - 0))", x.pole(1, 1, 0), 0);
        Check.due("below 2: (1 - 2) (1 - 0)", x.pole(1, 2, 0), -1);
        x.straight(719, 1117, 5);
        Check.due("below 1", x.pole(1, 1, 0), -(12 * 17 + 6 * 19));
        Check.due("below 1", x.pole(1, 1, 1), 17 * 19);
        Check.due("above 0 is the first echo", x.pole(0, 0, 0), x.echo(0, 0));
    }

    private static void loudness() {
        OrderEcho x = new OrderEcho();
        Check.due("loud 1", x.loud(1, 0), 9);
        Check.due("loud 2", x.loud(2, 0), 13);
        Check.due("loud 30", x.loud(30, 0), 13);
        Check.due("loud below", x.loud(30, 1), 1);
        Check.due("loud 31", x.loud(31, 0), NO);
        Check.due("loud 0", x.loud(0, 0), NO);
        Check.due("what 2", x.loud(1, 2), NO);
        Check.due("what -1", x.loud(1, -1), NO);
        x.straight(1, 102, 1);
        Check.due("9/4 + 1/16", x.loud(2, 0), 37);
        Check.due("9/4 + 1/16", x.loud(2, 1), 16);
        Check.due("4 to the 15th is too much", x.loud(16, 0), SPENT);
        Check.due("spent", x.loud(16, 1), SPENT);
    }

    private static long coefficients(int... c) {
        long v = 0;
        for (int i = c.length - 1; i >= 0; i--) {
            v = v * 256 + c[i] + 100;
        }
        return v;
    }

    private static void steady() {
        OrderEcho x = new OrderEcho();
        Check.due("k 0", x.steady(coefficients(1, 0), 0), -2);
        Check.due("k 5", x.steady(coefficients(1, 0, 0, 0, 0, 0), 5), -2);
        Check.due("k -1", x.steady(coefficients(1, 0), -1), -2);
        Check.due("c0 0", x.steady(coefficients(0, 1), 1), -2);
        Check.due("-100", x.steady(coefficients(5, -100), 1), -2);
        Check.due("100", x.steady(coefficients(5, 100), 1), -2);
        Check.due("100 in the middle", x.steady(coefficients(50, 100, 0), 2), -2);
        Check.due("99 and 98", x.steady(coefficients(99, -98), 1), 1);
        Check.due("-99 and 99", x.steady(coefficients(-99, 99), 1), 0);
        Check.due("1 and 2", x.steady(coefficients(1, 2), 1), 0);
        Check.due("1 - z + z^2 / 4", x.steady(coefficients(4, -4, 1), 2), 1);
        Check.due("1 - 2 z + z^2", x.steady(coefficients(1, -2, 1), 2), 0);
        Check.due("(2 - z) (1 - 2 z)", x.steady(coefficients(2, -5, 2), 2), 0);
        Check.due("(3 - z) (2 - 3 z)", x.steady(coefficients(6, -11, 3), 2), 0);
        Check.due("(3 - z) (2 + z) (4 - z)", x.steady(coefficients(24, -2, -5, 1), 3), 1);
        Check.due("(2 - z)^4", x.steady(coefficients(16, -32, 24, -8, 1), 4), 1);
        Check.due("(2 - z)^3 (1 - z)", x.steady(coefficients(8, -20, 18, -7, 1), 4), 0);
        Check.due("great numbers", x.steady(coefficients(99, 99, 99, 99, 98), 4), 1);
        Check.due("great numbers", x.steady(coefficients(98, 99, 99, 99, 97), 4), 1);
        Check.due("the last step", x.steady(coefficients(99, 99, -74, 17, -2), 4), 0);
        Check.due("the last step", x.steady(coefficients(99, -93, -2, 0, 0), 4), 1);
        tooManyCoefficients(x);
        Check.due("a root at 0 of the turned one", x.steady(coefficients(3, 1, 0, 0, 0), 4), 1);
    }

    /** Any bit above ck, the sign too, makes the number one that is not as told. */
    private static void tooManyCoefficients(OrderEcho x) {
        long[] fine = {coefficients(2, 1), coefficients(4, -4, 1), coefficients(24, -2, -5, 1),
            coefficients(16, -32, 24, -8, 1)};
        for (int k = 1; k <= 4; k++) {
            Check.due("just k + 1", x.steady(fine[k - 1], k), 1);
            for (int bit = 8 * (k + 1); bit < 64; bit++) {
                Check.due("bit " + bit + " with k " + k, x.steady(fine[k - 1] | 1L << bit, k), -2);
            }
        }
        Check.due("three coefficients with k 1", x.steady(coefficients(4, -4, 1), 1), -2);
        Check.due("a third one that is 0", x.steady(coefficients(2, 1, 0), 1), -2);
    }
}
