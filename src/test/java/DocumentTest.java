import java.math.BigInteger;
import java.util.Random;

/** The document from its first line to its last, with numbers that were worked out by hand from its words. */
public final class DocumentTest {
    private static final long SPENT = Long.MIN_VALUE + 1;

    public static void main(String[] args) {
        fractionsAsTold();
        net();
        fourWeeks();
        seenIsAllThatCame();
        rulesReadStateBehindSending();
        echoesByHand();
        allOthersAreZero();
        steadyByFactors();
        levelsByHand();
        worstByHand();
        claimsByHand();
        objectsAreApart();
        lastCall();
        Check.end("DocumentTest");
    }

    /** 1: "without a common divisor, below above 0"; "a number beyond 1000000000 (of either sign) it is SPENT". */
    private static void fractionsAsTold() {
        Random random = new Random(1);
        for (int turn = 0; turn < 300; turn++) {
            OrderEcho x = new OrderEcho();
            x.straight(share(random), share(random), 1 + random.nextInt(8));
            for (int k = 0; k <= 30; k++) {
                fraction("ECHO", x.echo(k, 0), x.echo(k, 1));
                fraction("LOUDNESS", x.loud(Math.max(1, k), 0), x.loud(Math.max(1, k), 1));
            }
            for (int i = 0; i <= 5; i++) {
                fraction("pole", x.pole(i / 3, i % 3, 0), x.pole(i / 3, i % 3, 1));
            }
        }
    }

    private static int share(Random random) {
        int by = 1 + random.nextInt(20);
        return 100 * random.nextInt(2 * by + 1) + by;
    }

    private static void fraction(String what, long above, long below) {
        if (above == SPENT || below == SPENT) {
            Check.due(what + ": both are SPENT", above, below);
            return;
        }
        Check.holds(what + ": below above 0", below > 0);
        Check.due(what + ": a common divisor", BigInteger.valueOf(above).gcd(BigInteger.valueOf(below)).longValue(), 1);
        Check.holds(what + ": not beyond", Math.abs(above) <= 1000000000L && below <= 1000000000L);
    }

    private static OrderEcho fourStages() {
        OrderEcho x = new OrderEcho();
        x.stage(0, 0, 2, 0, 10);
        x.stage(2, 0, 1, 1, 4);
        x.stage(3, 1, 1, 0, 2);
        x.stage(3, 1, 2, 2, 0);
        String[] texts = {"6", "9-place", "seen+1", "5-place"};
        for (int s = 0; s < 4; s++) {
            x.use(s, Check.rule(x, texts[s]));
        }
        x.set(1, 0, 4);
        x.set(2, 1, 3);
        x.set(1, 2, 2);
        x.set(1, 3, 5);
        x.allot(1);
        return x;
    }

    /** 2: what was told of the STAGES is what about() tells. */
    private static void net() {
        OrderEcho x = fourStages();
        int[][] due = {{0, -1, 2, 0, 1, 9999}, {2, 0, 1, 1, 4, 9999}, {3, 1, 1, 0, 1, 3}, {3, 1, 2, 2, 1, 9999}};
        for (int s = 0; s < 4; s++) {
            for (int what = 0; what <= 5; what++) {
                Check.due("about(" + s + "," + what + ")", x.about(s, what), due[s][what]);
            }
            Check.due("RULE of " + s, x.about(s, 11), s);
        }
        Check.due("SHOPS", x.count(5), 2);
        Check.due("ALLOTMENT", x.count(3), 1);
    }

    /** Of each STAGE after a WEEK: STOCK, all that it OWES, ON THE WAY, SEEN, ORDERED, SOLD or sent, POSITION, COST. */
    private static final long[][][] WEEKS = {
        {{10, 0, 6, 0, 6, 0, 16, 10}, {4, 0, 0, 0, 8, 0, 12, 8}, {0, 1, 0, 3, 3, 2, 2, 1}, {0, 1, 0, 1, 6, 0, 5, 1}},
        {{10, 0, 12, 0, 6, 0, 22, 20}, {1, 0, 0, 3, 0, 3, 9, 10}, {0, 3, 3, 2, 3, 2, 3, 4}, {0, 1, 0, 0, 0, 0, 5, 2}},
        {{8, 0, 12, 8, 6, 8, 20, 28}, {0, 2, 8, 3, 4, 4, 10, 20}, {0, 0, 1, 0, 1, 5, 4, 4}, {0, 5, 0, 4, 4, 0, 5, 7}},
        {{14, 0, 12, 0, 6, 8, 26, 42}, {0, 1, 0, 7, 8, 12, 11, 25}, {0, 0, 3, 1, 2, 6, 5, 4}, {0, 6, 5, 1, 1, 0, 5, 13}}};

    /** 3: the five steps of A WEEK, four times. */
    private static void fourWeeks() {
        OrderEcho x = fourStages();
        int[][] demands = {{3, 1}, {2, 0}, {0, 4}, {1, 1}};
        int[] sold = {2, 0, 3, 1};
        for (int w = 0; w < 4; w++) {
            x.demand(2, demands[w][0]);
            x.demand(3, demands[w][1]);
            Check.due("SOLD in week " + w, x.week(), sold[w]);
            for (int s = 0; s < 4; s++) {
                afterWeek(x, w, s, WEEKS[w][s]);
            }
        }
        Check.due("OWED to STAGE 2", x.owed(1, 2), 0);
        Check.due("OWED to STAGE 3", x.owed(1, 3), 1);
        Check.due("SLOT 1 of STAGE 0", x.slot(0, 1), 6);
        Check.due("SLOT 2 of STAGE 0", x.slot(0, 2), 6);
        Check.due("SLOT 1 of STAGE 2", x.slot(2, 1), 3);
        Check.due("SLOT 1 of STAGE 3", x.slot(3, 1), 0);
        Check.due("SLOT 2 of STAGE 3", x.slot(3, 2), 5);
        long[] kept = {24, 16, 6, 14, 20};
        for (int what = 0; what < kept.length; what++) {
            Check.due("KEPT " + what, x.kept(what), kept[what]);
        }
        Check.due("SWING of what STAGE 1 SAW: 4 times 67 less 13 times 13", x.swing(1, 0, 4), 99);
        Check.due("SWING of what it ORDERED: 4 times 144 less 20 times 20", x.swing(1, 1, 4), 176);
        Check.due("GAIN, above: 16 by 9", x.gain(1, 4, 0), 16);
        Check.due("GAIN, below", x.gain(1, 4, 1), 9);
    }

    private static void afterWeek(OrderEcho x, int w, int s, long[] due) {
        int[] whats = {6, 7, 8, 9, 10, 12};
        for (int i = 0; i < whats.length; i++) {
            Check.due("about(" + s + "," + whats[i] + ") after week " + w, x.about(s, whats[i]), due[i]);
        }
        Check.due("POSITION of " + s + " after week " + w, x.place(s), due[6]);
        Check.due("COST of " + s + " after week " + w, x.cost(s), due[7]);
    }

    /** 3: "SEEN by a STAGE are all that came so": orders of weeks 0 to 3 by four DELAYS come in one week. */
    private static void seenIsAllThatCame() {
        OrderEcho x = new OrderEcho();
        x.stage(0, 0, 1, 0, 0);
        int[] amounts = {1000, 200, 30, 4};
        for (int delay = 0; delay <= 3; delay++) {
            x.stage(2, 0, 1, delay, 0);
            int week = 3 - delay;
            // Worth its amount in that week alone: the product is 0 in each other one of the first five.
            x.use(delay + 1, Check.rule(x, "max(0,1-(week-" + week + ")*(week-" + week + "))*" + amounts[delay]));
        }
        for (int w = 0; w < 4; w++) {
            x.week();
            Check.due("nothing came in week " + w, x.about(0, 9), 0);
            Check.due("the one that is given in week " + w, x.about(4 - w, 10), amounts[3 - w]);
        }
        x.week();
        Check.due("all came in week 4", x.about(0, 9), 1234);
        Check.due("all are OWED", x.about(0, 7), 1234);
        for (int s = 1; s <= 4; s++) {
            Check.due("OWED to " + s, x.owed(0, s), amounts[s - 1]);
        }
        x.week();
        Check.due("nothing came in week 5", x.about(0, 9), 0);
        Check.due("still OWED", x.about(0, 7), 1234);
    }

    /** 3 and 4: what is ORDERED is worth what the STAGE has behind steps 1 to 3. */
    private static void rulesReadStateBehindSending() {
        String[] texts = {"stock", "owed", "way", "seen", "mean", "week", "20+place"};
        int[] due = {3, 0, 2, 4, 2, 1, 25};
        int[] dueInWant = {0, 7, 2, 14, 7, 1, 15};
        for (int i = 0; i < texts.length; i++) {
            Check.due(texts[i], orderedInSecondWeek(texts[i], 4), due[i]);
            Check.due(texts[i] + " in want", orderedInSecondWeek(texts[i], 14), dueInWant[i]);
        }
    }

    /** A digger with 7; in week 1 what was made in week 0 is on the way, and what its customer ordered comes. */
    private static int orderedInSecondWeek(String text, int order) {
        OrderEcho x = new OrderEcho();
        x.stage(0, 0, 2, 0, 7);
        x.stage(2, 0, 1, 0, 0);
        x.use(0, Check.rule(x, "2"));
        x.use(1, Check.rule(x, "" + order));
        x.week();
        x.use(0, Check.rule(x, text));
        x.week();
        return x.about(0, 10);
    }

    /** 5: STRAIGHT with t 1/2, a 1/2, m 2, step by step. */
    private static void echoesByHand() {
        OrderEcho x = new OrderEcho();
        x.straight(102, 102, 2);
        long[][] echoes = {{2, 1}, {-1, 4}, {-1, 4}, {-3, 16}};
        for (int k = 0; k < echoes.length; k++) {
            Check.due("ECHO " + k + " above", x.echo(k, 0), echoes[k][0]);
            Check.due("ECHO " + k + " below", x.echo(k, 1), echoes[k][1]);
        }
        long[][] poles = {{2, 1}, {-9, 4}, {1, 2}, {1, 1}, {-1, 1}, {1, 4}};
        for (int i = 0; i < poles.length; i++) {
            Check.due("pole " + i + " above", x.pole(i / 3, i % 3, 0), poles[i][0]);
            Check.due("pole " + i + " below", x.pole(i / 3, i % 3, 1), poles[i][1]);
        }
        long[][] louds = {{4, 1}, {65, 16}, {33, 8}, {1065, 256}};
        for (int n = 1; n <= louds.length; n++) {
            Check.due("LOUDNESS " + n + " above", x.loud(n, 0), louds[n - 1][0]);
            Check.due("LOUDNESS " + n + " below", x.loud(n, 1), louds[n - 1][1]);
        }
    }

    /** 5: BELOW times the row of ECHOES: "(all others are 0)". */
    private static void allOthersAreZero() {
        Random random = new Random(5);
        int looked = 0;
        for (int turn = 0; turn < 500; turn++) {
            OrderEcho x = new OrderEcho();
            x.straight(share(random), share(random), 1 + random.nextInt(8));
            BigInteger[][] below = new BigInteger[3][];
            for (int i = 0; i <= 2; i++) {
                below[i] = pair(x.pole(1, i, 0), x.pole(1, i, 1));
            }
            BigInteger[][] echoes = new BigInteger[31][];
            for (int i = 0; i <= 30 && x.echo(i, 0) != SPENT; i++) {
                echoes[i] = pair(x.echo(i, 0), x.echo(i, 1));
                if (i > 2) {
                    Check.due("coefficient " + i, coefficient(below, echoes, i).signum(), 0);
                    looked++;
                }
            }
        }
        Check.holds("some of them were looked at: " + looked, looked > 500);
    }

    private static BigInteger[] pair(long above, long below) {
        return new BigInteger[] {BigInteger.valueOf(above), BigInteger.valueOf(below)};
    }

    /** What is above the line, over all that is below it. */
    private static BigInteger coefficient(BigInteger[][] below, BigInteger[][] echoes, int i) {
        BigInteger sum = BigInteger.ZERO;
        BigInteger line = BigInteger.ONE;
        for (int j = 0; j <= 2; j++) {
            BigInteger part = below[j][1].multiply(echoes[i - j][1]);
            sum = sum.multiply(part).add(below[j][0].multiply(echoes[i - j][0]).multiply(line));
            line = line.multiply(part);
        }
        return sum;
    }

    /** 5: "if no z with an absolute value of 1 or less makes it 0": products of which all z that make them 0 are known. */
    private static void steadyByFactors() {
        Random random = new Random(24);
        Fresh fresh = new Fresh();
        int[] found = new int[2];
        for (int turn = 0; turn < 20000; turn++) {
            int k = 1 + random.nextInt(4);
            int[] c = {1};
            boolean is = true;
            while (c.length <= k) {
                int[] factor = c.length + 2 <= k + 1 && random.nextBoolean() ? twoAtOnce(random) : single(random);
                is = is && outside(factor);
                c = product(c, factor);
            }
            if (within99(c)) {
                Check.due("the product of factors", fresh.next().steady(digits(c), k), is ? 1 : 0);
                found[is ? 1 : 0]++;
            }
        }
        Check.holds("both kinds: " + found[0] + ", " + found[1], found[0] > 1000 && found[1] > 1000);
    }

    /** p - q z is 0 at p / q. */
    private static int[] single(Random random) {
        int p = 1 + random.nextInt(6);
        return new int[] {random.nextBoolean() ? p : -p, random.nextInt(2 * p + 3) - p - 1};
    }

    /** c0 + c1 z + c2 z z with two z beside the line: both have the absolute value of the root of c0 / c2. */
    private static int[] twoAtOnce(Random random) {
        int c0 = 1 + random.nextInt(9);
        int c2 = 1 + random.nextInt(c0 + 1);
        int c1 = 0;
        int tried = random.nextInt(21) - 10;
        if (tried * tried < 4 * c0 * c2) {
            c1 = tried;
        }
        return new int[] {c0, c1, c2};
    }

    private static boolean outside(int[] factor) {
        return Math.abs(factor[0]) > Math.abs(factor[factor.length - 1]);
    }

    private static int[] product(int[] x, int[] y) {
        int[] z = new int[x.length + y.length - 1];
        for (int i = 0; i < x.length; i++) {
            for (int j = 0; j < y.length; j++) {
                z[i + j] += x[i] * y[j];
            }
        }
        return z;
    }

    private static boolean within99(int[] c) {
        for (int v : c) {
            if (Math.abs(v) > 99) {
                return false;
            }
        }
        return true;
    }

    private static long digits(int[] c) {
        long v = 0;
        for (int i = c.length - 1; i >= 0; i--) {
            v = v * 256 + c[i] + 100;
        }
        return v;
    }

    /** 6: DEMAND 0 or 1, l 1, m 1, h 1, g 1, b 2; sums of 2 weeks weigh 1, 2, 1, and there are two least ones each. */
    private static void levelsByHand() {
        OrderEcho x = new OrderEcho();
        x.chances(11000);
        long[] near = {24, 12, 4, 4, 8};
        long[] far = {48, 32, 20, 20, 28};
        for (int y = -1; y <= 3; y++) {
            Check.due("C(" + y + ")", x.levelCost(0, 11, 1102, y), near[y + 1]);
            Check.due("K(" + y + ")", x.levelCost(1, 11, 1102, y), far[y + 1]);
        }
        Check.due("NEAR", x.level(0, 11, 1102), 1);
        Check.due("FAR", x.level(1, 11, 1102), 1);
        long[] sums = {1, 2, 1, 0};
        for (int sum = 0; sum < sums.length; sum++) {
            Check.due("the weight of " + sum, x.chance(2, sum), sums[sum]);
        }
    }

    /** 7: a SHOP with 3 in STOCK that orders nothing: what stays costs 1, what is OWED costs 4. */
    private static void worstByHand() {
        OrderEcho x = new OrderEcho();
        x.stage(0, 0, 1, 0, 0);
        x.stage(3, 0, 1, 0, 3);
        x.stage(3, 0, 1, 0, 0);
        x.set(1, 3, 4);
        // Demands 0 0 cost 3 + 3; 0 2 cost 3 + 1; 2 0 cost 1 + 1; 2 2 cost 1 + 4.
        Check.due("2 weeks of 0 or 2", x.worst(1, 0, 2, 0, 2), 6);
        Check.due("0 first", x.worstAt(0), 0);
        Check.due("0 then", x.worstAt(1), 0);
        // Demands 0 5 cost 3 + 8; 5 0 cost 8 + 8; 5 5 cost 8 + 28.
        Check.due("2 weeks of 0 or 5", x.worst(1, 0, 2, 0, 5), 36);
        Check.due("5 first", x.worstAt(0), 5);
        // Without LACK 0 3 and 0 4 cost 3 + 0 as well: 0 0 costs 6, and with 3 or 4 each week costs 0.
        x.set(1, 3, 0);
        Check.due("all rows cost 0", x.worst(1, 0, 2, 3, 4), 0);
        Check.due("lo first", x.worstAt(0), 3);
        Check.due("lo then", x.worstAt(1), 3);
        Check.due("no week went by", x.count(2), 0);
    }

    /** 7: two CUSTOMERS who want 2 each of 3. */
    private static void claimsByHand() {
        OrderEcho x = new OrderEcho();
        Check.due("0: by numbers", x.calmest(0, 3, 0x22, 2), 0x12);
        Check.due("2: evenly", x.calmest(2, 3, 0x22, 2), 0x12);
        Check.due("1: 3 times 4 by 6", x.gets(1, 3, 0x42, 2, 1), 2);
        Check.due("1: so the second gets nearer", x.calm(1, 3, 0x22, 0x12, 2), 0);
        Check.due("0: it can't", x.calm(0, 3, 0x22, 0x12, 2), 1);
        Check.due("2: it can't", x.calm(2, 3, 0x22, 0x12, 2), 1);
        Check.due("0: 1 would get 2 by 2", x.calm(0, 3, 0x22, 0x21, 2), 0);
        Check.due("enough for all", x.calm(1, 4, 0x22, 0x22, 2), 1);
        Check.due("enough for all, too much claimed", x.calm(1, 6, 0x22, 0x23, 2), 0);
        Check.due("nothing there, whatever is claimed", x.calm(1, 0, 0x22, 0xc0, 2), 1);
    }

    /** "The same calls always give the same answers": what another object is asked between them doesn't matter. */
    private static void objectsAreApart() {
        OrderEcho alone = Twin.busy();
        OrderEcho one = Twin.young();
        OrderEcho other = Twin.bare();
        one.weeks(3, 4);
        other.straight(201, 201, 8);
        other.chances(90009);
        other.allot(2);
        Check.rule(other, "99");
        one.demand(3, 11);
        other.stage(0, 0, 1, 0, 7);
        other.stage(3, 0, 1, 0, 9);
        other.week();
        one.week();
        other.worst(1, 0, 6, 0, 9);
        one.worst(4, 0, 3, 2, 30);
        one.demand(3, 17);
        other.demand(1, 5);
        one.demand(4, 5);
        long[] due = Looks.at(alone);
        long[] got = Looks.at(one);
        for (int i = 0; i < due.length; i++) {
            Check.due("look " + i, got[i], due[i]);
        }
    }

    /** "at most 512 calls": the last two of them answer as any others. */
    private static void lastCall() {
        OrderEcho x = fourStages();
        int calls = 4 + 4 * 3 + 5;
        for (; calls < 411; calls++) {
            x.worst(2, 0, 6, 0, 999);
        }
        for (; calls < 510; calls++) {
            x.weeks(4, 3);
        }
        OrderEcho y = fourStages();
        for (int i = 0; i < 99; i++) {
            y.weeks(4, 3);
        }
        Check.due("the 511th call", x.count(2), 4 * 99);
        Check.due("the 512th call: COST as without the others", x.cost(1), y.cost(1));
    }
}
