/** Promises 12 to 14, and section 3: a week and the allotments in it. */
public final class WeekTest {
    public static void main(String[] args) {
        demands();
        week();
        weeks();
        delays();
        lotsAndCaps();
        allotments();
        Check.end("WeekTest");
    }

    private static void demands() {
        OrderEcho x = Check.fiveStages();
        Check.due("demand of a store", x.demand(2, 1), -1);
        Check.due("demand of none", x.demand(5, 1000), -1);
        Check.due("demand of -1", x.demand(-1, 0), -1);
        Check.due("demand 1000", x.demand(3, 1000), -2);
        Check.due("demand -1", x.demand(3, -1), -2);
        Check.due("demand", x.demand(3, 999), 0);
        Check.due("demand again", x.demand(3, 2), 999);
        Check.due("the other's", x.demand(4, 3), 0);
        Check.due("sold", x.week(), 5);
        Check.due("told for one week", x.demand(3, 0), 0);
        Check.due("sold none", x.week(), 0);
    }

    private static void week() {
        OrderEcho x = new OrderEcho();
        Check.due("no stage", x.week(), -3);
        x.stage(0, 0, 1, 0, 0);
        for (int i = 0; i < 400; i++) {
            Check.due("week " + i, x.week(), 0);
        }
        Check.due("weeks", x.count(2), 400);
        Check.due("the 401st", x.week(), -4);
        Check.due("weeks", x.count(2), 400);
        Check.due("weeks(1)", x.weeks(1, 0), -4);
    }

    private static void weeks() {
        OrderEcho x = new OrderEcho();
        Check.due("bad ahead of state", x.weeks(21, 0), -2);
        Check.due("no stage", x.weeks(1, 0), -3);
        x.stage(0, 0, 1, 0, 0);
        x.stage(3, 0, 1, 0, 100);
        x.stage(3, 0, 1, 0, 10);
        Check.due("weeks 0", x.weeks(0, 0), -2);
        Check.due("weeks -1", x.weeks(-1, 0), -2);
        Check.due("demand -1", x.weeks(1, -1), -2);
        Check.due("demand 1000", x.weeks(1, 1000), -2);
        x.demand(1, 50);
        Check.due("the same at all", x.weeks(3, 7), 21 + 10);
        Check.due("owed", x.owed(2, 2), 11);
        Check.due("not told any more", x.demand(1, 5), 0);
        Check.due("told stays", x.weeks(21, 0), -2);
        Check.due("sold", x.week(), 5);
        for (int i = 0; i < 19; i++) {
            x.weeks(20, 0);
        }
        Check.due("weeks", x.count(2), 384);
        x.demand(1, 9);
        Check.due("too many", x.weeks(17, 1), -4);
        Check.due("told stays", x.demand(1, 9), 9);
        Check.due("bad ahead of full", x.weeks(17, 1000), -2);
        Check.due("just enough", x.weeks(16, 1), 16);
        Check.due("weeks", x.count(2), 400);
    }

    private static void delays() {
        for (int delay = 0; delay <= 3; delay++) {
            OrderEcho x = new OrderEcho();
            x.stage(0, 0, 1, 0, 100);
            x.stage(3, 0, 3, delay, 0);
            Check.rule(x, "max(0,5-5*week)");
            x.use(1, 0);
            for (int w = 0; w <= delay; w++) {
                x.week();
                Check.due("not seen, delay " + delay, x.about(0, 9), 0);
                Check.due("not seen, place " + delay, x.place(1), 5);
            }
            x.week();
            Check.due("seen, delay " + delay, x.about(0, 9), 5);
            Check.due("sent, delay " + delay, x.slot(1, 3), 5);
            Check.due("sent, place " + delay, x.place(1), 5);
            x.weeks(2, 0);
            Check.due("nearly there", x.slot(1, 1), 5);
            Check.due("stock", x.about(1, 6), 0);
            x.week();
            Check.due("there", x.about(1, 6), 5);
        }
    }

    private static void lotsAndCaps() {
        OrderEcho x = new OrderEcho();
        x.stage(0, 0, 1, 0, 0);
        Check.rule(x, "week*10-9");
        x.use(0, 0);
        x.set(0, 0, 7);
        x.set(0, 1, 40);
        int[] due = {0, 7, 14, 21, 35, 40, 40};
        for (int w = 0; w < due.length; w++) {
            x.week();
            Check.due("ordered in week " + w, x.about(0, 10), due[w]);
        }
        x.set(0, 1, 9999);
        x.set(0, 0, 9);
        x.week();
        Check.due("63 to the next multiple of 9", x.about(0, 10), 63);
        Check.rule(x, "9999*9999*9999");
        x.use(0, 1);
        x.set(0, 0, 50);
        x.week();
        Check.due("cap ahead of all", x.about(0, 10), 9999);
    }

    /** A store with 10 in stock, to which 3, 8, 0 and 5 are ordered. */
    private static void allotments() {
        int[][] due = {{3, 7, 0, 0}, {2, 5, 0, 3}, {3, 4, 0, 3}};
        for (int how = 0; how < 3; how++) {
            OrderEcho x = new OrderEcho();
            x.allot(how);
            x.stage(0, 0, 1, 0, 10);
            String[] texts = {"3-week*9", "8-week*9", "0", "5-week*9"};
            for (int i = 0; i < 4; i++) {
                x.stage(3, 0, 1, 0, 0);
                Check.rule(x, texts[i]);
                x.use(i + 1, i);
            }
            x.weeks(2, 0);
            int[] wants = {3, 8, 0, 5};
            for (int i = 0; i < 4; i++) {
                Check.due("sent, how " + how + " to " + (i + 1), x.slot(i + 1, 1), due[how][i]);
                Check.due("owed, how " + how + " to " + (i + 1), x.owed(0, i + 1), wants[i] - due[how][i]);
            }
            Check.due("all gone", x.about(0, 6), 0);
        }
    }
}
