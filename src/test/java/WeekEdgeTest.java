/** Section 3 and promises 12 to 14: each bound of a week, just inside it and just outside it. */
public final class WeekEdgeTest {
    private static final int LEAST = Integer.MIN_VALUE, MOST = Integer.MAX_VALUE;

    public static void main(String[] args) {
        demands();
        demandUnlessTold();
        demandOfWeeks();
        noStage();
        lastWeekByWeek();
        lastWeekByWeeks();
        weeksAtOnce();
        goodsComeFirst();
        ordersComeToBeKnown();
        justEnough();
        allotmentsInWant();
        nothingInStock();
        oneCustomer();
        wantGrowsAndEnds();
        customersOfTwo();
        soldToBuyers();
        keptInWant();
        Check.end("WeekEdgeTest");
    }

    private static OrderEcho shop(int stock) {
        OrderEcho x = new OrderEcho();
        x.stage(0, 0, 1, 0, 0);
        x.stage(3, 0, 1, 0, stock);
        return x;
    }

    /** "a DEMAND, 0 .. 999". */
    private static void demands() {
        OrderEcho x = shop(5000);
        int[] bad = {LEAST, -1, 1000, MOST};
        for (int d : bad) {
            Check.due("DEMAND " + d, x.demand(1, d), -2);
        }
        Check.due("nothing told", x.demand(1, 999), 0);
        Check.due("999 told", x.demand(1, 0), 999);
        Check.due("0 told", x.demand(1, 999), 0);
        for (int d : bad) {
            Check.due("DEMAND " + d, x.demand(1, d), -2);
        }
        Check.due("999 SOLD", x.week(), 999);
        Check.due("999 SEEN", x.about(1, 9), 999);
        int[] none = {LEAST, -1, 0, 2, 7, 8, MOST};
        for (int s : none) {
            Check.due("no SHOP " + s, x.demand(s, 1), -1);
            Check.due("NONE ahead of BAD " + s, x.demand(s, 1000), -1);
        }
        OrderEcho y = Check.fiveStages();
        for (int s = 0; s <= 2; s++) {
            Check.due("KIND " + s + " is no SHOP", y.demand(s, 0), -1);
        }
        Check.due("the last SHOP", y.demand(4, 1), 0);
    }

    /** "0 unless told for this week". */
    private static void demandUnlessTold() {
        OrderEcho x = shop(100);
        Check.due("never told", x.week(), 0);
        x.demand(1, 7);
        x.demand(1, 9);
        Check.due("the latter one", x.week(), 9);
        Check.due("not told again", x.week(), 0);
        Check.due("nothing SEEN", x.about(1, 9), 0);
        Check.due("what it was", x.demand(1, 3), 0);
        x.demand(1, 0);
        Check.due("told 0 behind 3", x.week(), 0);
        OrderEcho y = Check.fiveStages();
        y.demand(3, 4);
        Check.due("of one SHOP alone", y.week(), 4);
        Check.due("SEEN by it", y.about(3, 9), 4);
        Check.due("not by the other", y.about(4, 9), 0);
    }

    /** "n weeks (1 .. 20) with the same DEMAND at all SHOPS". */
    private static void demandOfWeeks() {
        OrderEcho x = Check.fiveStages();
        x.demand(3, 5);
        Check.due("not what was told", x.weeks(1, 2), 4);
        Check.due("told is gone", x.demand(3, 0), 0);
        x.demand(3, 5);
        Check.due("0, not 5", x.weeks(1, 0), 0);
        Check.due("not told for the week behind", x.week(), 0);
        OrderEcho y = shop(9999);
        Check.due("999", y.weeks(2, 999), 1998);
        Check.due("0", y.weeks(2, 0), 0);
        Check.due("1000", y.weeks(2, 1000), -2);
        Check.due("-1", y.weeks(2, -1), -2);
        Check.due("the least", y.weeks(2, LEAST), -2);
        Check.due("the most", y.weeks(2, MOST), -2);
        Check.due("4 weeks", y.count(2), 4);
    }

    /** "STATE: there is no STAGE". */
    private static void noStage() {
        OrderEcho x = new OrderEcho();
        Check.due("week", x.week(), -3);
        Check.due("weeks", x.weeks(1, 0), -3);
        Check.due("BAD ahead of STATE", x.weeks(0, 0), -2);
        Check.due("BAD ahead of STATE", x.weeks(1, 1000), -2);
        Check.due("no week", x.count(2), 0);
        Check.due("a STAGE may come", x.stage(0, 0, 1, 0, 0), 0);
        Check.due("week", x.week(), 0);
        Check.due("1 week", x.count(2), 1);
    }

    /** "FULL: 400 weeks went by." */
    private static void lastWeekByWeek() {
        OrderEcho x = shop(500);
        for (int w = 0; w < 399; w++) {
            x.week();
        }
        Check.due("399 weeks", x.count(2), 399);
        x.demand(1, 3);
        Check.due("the 400th", x.week(), 3);
        Check.due("400 weeks", x.count(2), 400);
        x.demand(1, 4);
        long cost = x.cost(1);
        Check.due("the 401st", x.week(), -4);
        Check.due("400 weeks still", x.count(2), 400);
        Check.due("COST stays", x.cost(1), cost);
        Check.due("STOCK stays", x.about(1, 6), 497);
        Check.due("SEEN stays", x.about(1, 9), 3);
        Check.due("DEMAND stays", x.demand(1, 0), 4);
        Check.due("weeks(1)", x.weeks(1, 0), -4);
    }

    /** "FULL: it would be more than 400." */
    private static void lastWeekByWeeks() {
        for (int n = 1; n <= 20; n++) {
            OrderEcho x = shop(9999);
            for (int w = 0; w < 19; w++) {
                x.weeks(20, 1);
            }
            x.weeks(20 - n + 1, 1);
            int gone = 400 - n + 1;
            Check.due("weeks", x.count(2), gone);
            x.demand(1, 4);
            Check.due("one too many of " + n, x.weeks(n, 2), -4);
            Check.due("weeks stay", x.count(2), gone);
            Check.due("STOCK stays", x.about(1, 6), 9999 - gone);
            Check.due("DEMAND stays", x.demand(1, 4), 4);
            Check.due("BAD ahead of FULL", x.weeks(n, 1000), -2);
            Check.due("just 400", n == 1 ? 0 : x.weeks(n - 1, 2), 2 * (n - 1));
            Check.due("400 weeks", x.count(2), 400);
            Check.due("full", x.week(), -4);
            Check.due("21 are BAD still", x.weeks(21, 2), -2);
        }
    }

    /** "n weeks (1 .. 20)". */
    private static void weeksAtOnce() {
        OrderEcho x = shop(9999);
        int[] bad = {LEAST, -1, 0, 21, 400, MOST};
        for (int n : bad) {
            Check.due("weeks " + n, x.weeks(n, 1), -2);
        }
        Check.due("no week", x.count(2), 0);
        Check.due("1", x.weeks(1, 3), 3);
        Check.due("1 week", x.count(2), 1);
        Check.due("20", x.weeks(20, 3), 60);
        Check.due("21 weeks", x.count(2), 21);
    }

    /** "GOODS in SLOT 1 come to STOCK", ahead of what is SENT or SOLD in the same week. */
    private static void goodsComeFirst() {
        OrderEcho x = new OrderEcho();
        x.stage(0, 0, 1, 0, 5);
        x.stage(3, 0, 1, 0, 0);
        x.use(1, Check.rule(x, "5-week*5"));
        x.demand(1, 5);
        Check.due("nothing to sell", x.week(), 0);
        Check.due("OWED to buyers", x.owed(1, 1), 5);
        Check.due("still nothing", x.week(), 0);
        Check.due("in SLOT 1", x.slot(1, 1), 5);
        Check.due("sold as it comes", x.week(), 5);
        Check.due("nothing OWED", x.owed(1, 1), 0);
        Check.due("SLOT 1 is empty", x.slot(1, 1), 0);
    }

    /** "ORDERS that were given DELAY + 1 weeks ago": each DELAY, and a row of orders behind one another. */
    private static void ordersComeToBeKnown() {
        for (int delay = 0; delay <= 3; delay++) {
            OrderEcho x = new OrderEcho();
            x.stage(0, 0, 1, 0, 0);
            x.stage(3, 0, 6, delay, 0);
            x.use(1, Check.rule(x, "week*week+1"));
            int all = 0;
            for (int w = 0; w < 12; w++) {
                x.week();
                int given = w - delay - 1;
                int order = given < 0 ? 0 : given * given + 1;
                all += order;
                Check.due("SEEN in week " + w + " with DELAY " + delay, x.about(0, 9), order);
                Check.due("OWED in week " + w + " with DELAY " + delay, x.owed(0, 1), all);
                Check.due("ORDERED in week " + w, x.about(1, 10), w * w + 1);
            }
        }
    }

    /** What each of four customers gets of a stock in the week in which their orders come to be known. */
    private static void compare(int how, int stock, int[] orders, int... due) {
        OrderEcho x = new OrderEcho();
        x.allot(how);
        x.stage(0, 0, 1, 0, stock);
        int all = 0;
        for (int i = 0; i < orders.length; i++) {
            x.stage(2, 0, 1, 0, 0);
            x.use(i + 1, Check.rule(x, orders[i] + "-week*99"));
        }
        x.weeks(2, 0);
        int sent = 0;
        for (int i = 0; i < orders.length; i++) {
            String to = "ALLOTMENT " + how + " of " + stock + " to " + i;
            Check.due(to, x.slot(i + 1, 1), due[i]);
            Check.due(to + ", OWED", x.owed(0, i + 1), orders[i] - due[i]);
            all += orders[i];
            sent += due[i];
        }
        Check.due("STOCK left", x.about(0, 6), stock - sent);
        Check.due("all OWED", x.about(0, 7), all - sent);
        Check.due("sent", x.about(0, 12), sent);
    }

    /** "If STOCK is less than all that it OWES": not if it is just that, or 1 more. */
    private static void justEnough() {
        int[] orders = {3, 8, 0, 5};
        for (int how = 0; how <= 2; how++) {
            compare(how, 16, orders, 3, 8, 0, 5);
            compare(how, 17, orders, 3, 8, 0, 5);
            compare(how, 9999, orders, 3, 8, 0, 5);
            compare(how, 5, new int[] {0, 0, 0, 0}, 0, 0, 0, 0);
        }
    }

    /** Each ALLOTMENT with 1 less than is OWED, 1 alone, and what is cut without and with a rest. */
    private static void allotmentsInWant() {
        int[] orders = {3, 8, 0, 5};
        compare(0, 15, orders, 3, 8, 0, 4);
        compare(1, 15, orders, 3, 8, 0, 4);
        compare(2, 15, orders, 3, 7, 0, 5);
        compare(0, 8, orders, 3, 5, 0, 0);
        compare(1, 8, orders, 2, 4, 0, 2);
        compare(2, 8, orders, 3, 3, 0, 2);
        compare(0, 2, orders, 2, 0, 0, 0);
        compare(1, 2, orders, 1, 1, 0, 0);
        compare(2, 2, orders, 1, 1, 0, 0);
        int[] noneFirst = {0, 8, 5, 3};
        for (int how = 0; how <= 2; how++) {
            compare(how, 1, orders, 1, 0, 0, 0);
            compare(how, 1, noneFirst, 0, 1, 0, 0);
        }
        int[] parts = {2, 4, 6, 8};
        compare(0, 10, parts, 2, 4, 4, 0);
        compare(1, 10, parts, 1, 2, 3, 4);
        compare(2, 10, parts, 2, 3, 3, 2);
        compare(1, 19, parts, 2, 4, 6, 7);
        compare(2, 19, parts, 2, 4, 6, 7);
        compare(2, 18, parts, 2, 4, 6, 6);
        compare(2, 17, parts, 2, 4, 6, 5);
        compare(2, 14, parts, 2, 4, 4, 4);
        compare(2, 4, parts, 1, 1, 1, 1);
        compare(2, 5, parts, 2, 1, 1, 1);
        compare(1, 3, new int[] {1, 1, 1, 1}, 1, 1, 1, 0);
        compare(1, 9998, new int[] {9999, 9999, 9999, 9999}, 2500, 2500, 2499, 2499);
        compare(2, 9998, new int[] {9999, 9999, 9999, 9999}, 2500, 2500, 2499, 2499);
    }

    private static void nothingInStock() {
        for (int how = 0; how <= 2; how++) {
            compare(how, 0, new int[] {3, 8, 0, 5}, 0, 0, 0, 0);
            compare(how, 0, new int[] {0, 0, 0, 0}, 0, 0, 0, 0);
        }
    }

    private static void oneCustomer() {
        for (int how = 0; how <= 2; how++) {
            compare(how, 6, new int[] {7}, 6);
            compare(how, 7, new int[] {7}, 7);
            compare(how, 8, new int[] {7}, 7);
            compare(how, 0, new int[] {7}, 0);
            compare(how, 7, new int[] {0}, 0);
        }
    }

    /** What is OWED still is sent later, together with what was ordered since. */
    private static void wantGrowsAndEnds() {
        OrderEcho x = new OrderEcho();
        x.stage(0, 0, 1, 0, 1);
        x.stage(2, 0, 1, 0, 0);
        x.use(1, Check.rule(x, "2-week"));
        x.use(0, Check.rule(x, "week"));
        x.weeks(2, 0);
        Check.due("1 of 2", x.owed(0, 1), 1);
        x.week();
        Check.due("1 of 1 and 1", x.owed(0, 1), 1);
        Check.due("1 came to STOCK", x.slot(1, 1), 1);
        x.week();
        Check.due("the last one", x.owed(0, 1), 0);
        Check.due("1 too many", x.about(0, 6), 1);
        Check.due("3 in all", x.about(0, 12), 3);
    }

    /** Two suppliers in want in one week, whose customers' numbers stand between one another's. */
    private static void customersOfTwo() {
        int[] suppliers = {0, 0, 0, 1, 0, 1, 0, 1};
        int[] orders = {0, 0, 3, 2, 8, 9, 5, 4};
        int[][] due = {{0, 0, 3, 2, 7, 5, 0, 0}, {0, 0, 2, 1, 5, 5, 3, 1}, {0, 0, 3, 2, 4, 3, 3, 2}};
        for (int how = 0; how <= 2; how++) {
            OrderEcho x = new OrderEcho();
            x.allot(how);
            for (int s = 0; s < 8; s++) {
                x.stage(s == 0 ? 0 : 2, suppliers[s], 1, 0, s == 0 ? 10 : s == 1 ? 7 : 0);
                x.use(s, Check.rule(x, orders[s] + "-week*99"));
            }
            x.weeks(2, 0);
            for (int s = 1; s < 8; s++) {
                String to = "ALLOTMENT " + how + " to STAGE " + s;
                Check.due(to, x.slot(s, 1), due[how][s]);
                Check.due(to + ", OWED", x.owed(suppliers[s], s), orders[s] - due[how][s]);
            }
            Check.due("OWED by STAGE 0", x.about(0, 7), 6);
            Check.due("OWED by STAGE 1", x.about(1, 7), 8);
        }
    }

    /** "(of a SHOP: it is SOLD)": as far as its STOCK goes. */
    private static void soldToBuyers() {
        int[][] rows = {{9, 10, 9, 0}, {10, 10, 10, 0}, {11, 10, 10, 1}, {0, 10, 0, 0}, {999, 0, 0, 999}};
        for (int[] row : rows) {
            OrderEcho x = shop(row[1]);
            x.demand(1, row[0]);
            Check.due("SOLD", x.week(), row[2]);
            Check.due("OWED to buyers", x.owed(1, 1), row[3]);
            Check.due("STOCK", x.about(1, 6), row[1] - row[2]);
            Check.due("SOLD in all", x.about(1, 12), row[2]);
            Check.due("SOLD by all", x.kept(2), row[2]);
        }
    }

    /** "KEPT", with too little for all in each ALLOTMENT, week by week. */
    private static void keptInWant() {
        for (int how = 0; how <= 2; how++) {
            OrderEcho x = Check.fiveStages();
            x.allot(how);
            int rule = Check.rule(x, "seen+owed");
            for (int s = 0; s < 5; s++) {
                x.use(s, rule);
            }
            for (int w = 0; w < 40; w++) {
                x.weeks(1, w * 37 % 100);
                Check.due("KEPT", x.kept(0) + x.kept(1), x.kept(2) + x.kept(3) + x.kept(4));
            }
        }
    }
}
