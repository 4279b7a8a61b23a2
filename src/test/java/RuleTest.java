/** Promises 15 to 17, and section 4: the tape, rules and what they are worth. */
public final class RuleTest {
    private static final long NO = Long.MIN_VALUE;

    public static void main(String[] args) {
        feeding();
        reading();
        faults();
        fullOfRules();
        values();
        edges();
        fields();
        Check.end("RuleTest");
    }

    private static void feeding() {
        OrderEcho x = new OrderEcho();
        Check.due("feed 0", x.feed(0x31, 0), -2);
        Check.due("feed 9", x.feed(0x31, 9), -2);
        Check.due("feed -1", x.feed(0x31, -1), -2);
        Check.due("the lowest bytes", x.feed(0x7777_7777_7731_322BL, 3), 3);
        Check.due("count 4", x.count(4), 3);
        Check.due("feed", x.feed(0x33, 1), 4);
        Check.due("rule", x.rule(), 0);
        Check.due("count 4", x.count(4), 0);
        x.stage(0, 0, 1, 0, 0);
        Check.due("the highest first", x.worth(0, 0), 15);
        for (int i = 1; i <= 15; i++) {
            Check.due("feed", x.feed(0x312B_312B_312B_312BL, 8), 8 * i);
        }
        Check.due("the 121st", x.feed(0x31, 1), -4);
        Check.due("bad ahead of full", x.feed(0x31, 0), -2);
        Check.due("count 4", x.count(4), 120);
        Check.due("ends with a sign", x.rule(), -10 - 120);
        Check.due("count 4", x.count(4), 0);
        for (int i = 1; i <= 14; i++) {
            x.feed(0x312B_312B_312B_312BL, 8);
        }
        Check.due("feed 7", x.feed(0x312B_312B_312B_31L, 7), 119);
        Check.due("one too many", x.feed(0x312B, 2), -4);
        Check.due("rule of 119", x.rule(), 1);
        Check.due("worth of 119", x.worth(1, 0), 60);
    }

    private static void reading() {
        String[] fine = {"0", "9999", "0000", "stock", "owed", "way", "seen", "mean", "week", "place",
            "min(1,2)", "max(way,week)", "(seen)", "((((((1))))))", "min(min(1,2),max(3,4))", "1+2-3*4/5",
            "(1)*(2)+min(1+1,2*2)", "max((1),(2))/max(1,0)"};
        for (String text : fine) {
            OrderEcho x = new OrderEcho();
            Check.due(text, Check.rule(x, text), 0);
            Check.due(text + " again", Check.rule(x, text), 1);
            Check.due("rules", x.count(1), 2);
        }
    }

    private static void faults() {
        Object[][] due = {
            {"", 0}, {"+1", 0}, {"-1", 0}, {" 1", 0}, {"1 ", 1}, {"12345", 4}, {"1+", 2}, {"1+*2", 2},
            {"1++2", 2}, {"stoc", 4}, {"stox", 3}, {"sxock", 1}, {"stocks", 5}, {"stock1", 5}, {"1stock", 1},
            {"wax", 2}, {"weel", 3}, {"w", 1}, {"wx", 1}, {"me", 2}, {"mi", 2}, {"ma", 2}, {"mb", 1}, {"mean(", 4},
            {"min", 3}, {"min1", 3}, {"min(", 4}, {"min(1", 5}, {"min(1)", 5}, {"min(1,", 6}, {"min(1,2", 7},
            {"min(1,2,", 7}, {"min(1,2)3", 8}, {"max)", 3}, {"(1,2)", 2}, {"(1", 2}, {"()", 1}, {"1)", 1}, {"1,", 1},
            {"(((((((1", 6}, {"((((((1)))))))", 13}, {"((((((min(1,2", 9}, {"((((((mix", 8}, {"min((((((1", 10},
            {"min(((((((1", 9}, {"min(((((1)))),((((((1", 19}, {"min(((((1)))),(((((1", 20}, {"Stock", 0}, {"plac", 4},
            {"place", -1}, {"placf", 4}, {"12345+", 4}, {"1234", -1}, {"1/0", -1}, {"\u00ff", 0},
            {"1\u0000", 1}, {"owedd", 4}, {"seem", 3}};
        for (Object[] row : due) {
            OrderEcho x = new OrderEcho();
            int fault = (Integer) row[1];
            Check.due((String) row[0], Check.rule(x, (String) row[0]), fault < 0 ? 0 : -10 - fault);
            Check.due("the tape is empty then", x.count(4), 0);
        }
    }

    private static void fullOfRules() {
        OrderEcho x = new OrderEcho();
        for (int i = 0; i < 12; i++) {
            Check.due("rule " + i, Check.rule(x, "" + i), i);
        }
        Check.due("a thirteenth", Check.rule(x, "12"), -4);
        Check.due("the tape stays", x.count(4), 2);
        Check.due("still full", x.rule(), -4);
        Check.due("rules", x.count(1), 12);
        Check.due("full with a fault, too", Check.rule(x, "x"), -4);
        Check.due("the tape keeps it", x.count(4), 3);
        Check.due("one more byte", x.feed(0, 1), 4);
        x.stage(0, 0, 1, 0, 0);
        for (int i = 0; i < 12; i++) {
            Check.due("worth " + i, x.worth(i, 0), i);
        }
        OrderEcho y = new OrderEcho();
        for (int i = 0; i < 12; i++) {
            Check.due("a fault makes no rule", Check.rule(y, "x"), -10);
            Check.due("rule " + i, Check.rule(y, "week"), i);
        }
        Check.due("full with an empty tape, too", y.rule(), -4);
        Check.due("the tape is empty still", y.count(4), 0);
    }

    private static void values() {
        Object[][] due = {
            {"1+2*3", 7}, {"10-3-2", 5}, {"100/7/2", 7}, {"2*7/3", 4}, {"7/3*2", 4}, {"(0-7)/2", -3}, {"7/(0-2)", -3},
            {"5/0", 0}, {"5/0+3", 3}, {"min(3,0-4)", -4}, {"max(3,0-4)", 3}, {"(1+2)*(3+4)", 21}, {"0012", 12},
            {"2*(3+min(4,5)*2)-1", 21}, {"1-2*3-4*5", -25}, {"max(min(1,2),min(3,4))", 3}};
        for (Object[] row : due) {
            OrderEcho x = new OrderEcho();
            x.stage(0, 0, 1, 0, 0);
            Check.rule(x, (String) row[0]);
            Check.due((String) row[0], x.worth(0, 0), (Integer) row[1]);
        }
        OrderEcho x = new OrderEcho();
        Check.rule(x, "1");
        Check.due("no stage", x.worth(0, 0), NO);
        x.stage(0, 0, 1, 0, 0);
        Check.due("no rule", x.worth(1, 0), NO);
        Check.due("no rule -1", x.worth(-1, 0), NO);
        Check.due("no stage 1", x.worth(0, 1), NO);
        Check.due("no stage -1", x.worth(0, -1), NO);
        Check.due("there is", x.worth(0, 0), 1);
    }

    /** Each step is kept within 1000000000, not only the last one. */
    private static void edges() {
        Object[][] due = {
            {"9999*9999*9999", 1000000000L}, {"0-9999*9999*9999", -1000000000L}, {"9999*9999*9999/1000", 1000000L},
            {"9999*9999*11-9999*9999", 1000000000L - 99980001L}, {"1000*1000*1000", 1000000000L},
            {"1000*1000*1000+1-1", 999999999L}, {"0-1000*1000*1000-5+5", -999999995L},
            {"(0-1000*1000*1000)*(0-1000*1000*1000)", 1000000000L},
            {"(0-1000*1000*1000)*(1000*1000*1000)", -1000000000L}};
        for (Object[] row : due) {
            OrderEcho x = new OrderEcho();
            x.stage(0, 0, 1, 0, 0);
            Check.rule(x, (String) row[0]);
            Check.due((String) row[0], x.worth(0, 0), (Long) row[1]);
        }
    }

    private static void fields() {
        OrderEcho x = new OrderEcho();
        x.stage(0, 0, 1, 0, 50);
        x.stage(3, 0, 3, 0, 20);
        String[] names = {"stock", "owed", "way", "seen", "mean", "week", "place"};
        for (String name : names) {
            Check.rule(x, name);
        }
        Check.rule(x, "week+6");
        x.use(1, 7);
        worths(x, "ahead of any week", 20, 0, 0, 0, 0, 0, 20);
        x.demand(1, 15);
        x.week();
        worths(x, "week 0", 5, 0, 0, 15, 15, 0, 5 + 6);
        x.demand(1, 8);
        x.week();
        worths(x, "week 1", 0, 3, 6, 8, 11, 1, 13 - 3);
        x.week();
        worths(x, "week 2", 0, 3, 13, 0, 7, 2, 21 - 3);
        x.week();
        worths(x, "week 3", 0, 3, 21, 0, 5, 3, 30 - 3);
        x.demand(1, 1);
        x.week();
        worths(x, "week 4, of the latest 4", 2, 0, 24, 1, 2, 4, 2 + 24 + 10);
        OrderEcho y = new OrderEcho();
        y.stage(0, 0, 1, 0, 9);
        Check.rule(y, "stock*1000+week*100+seen*10+mean");
        y.use(0, 0);
        y.week();
        Check.due("in the first week the week is 0", y.about(0, 10), 9000);
        y.week();
        Check.due("and then 1", y.about(0, 10), 9999);
    }

    private static void worths(OrderEcho x, String when, long... due) {
        for (int i = 0; i < due.length; i++) {
            Check.due("worth of field " + i + ", " + when, x.worth(i, 1), due[i]);
        }
    }
}
