/** Promises 1 to 11: a new object and the net. */
public final class NetTest {
    private static final long NO = Long.MIN_VALUE;

    public static void main(String[] args) {
        newObject();
        stages();
        stageRefusals();
        settings();
        rulesOfStages();
        allotments();
        aboutStages();
        places();
        slots();
        owed();
        costs();
        kept();
        Check.end("NetTest");
    }

    private static void newObject() {
        OrderEcho x = new OrderEcho();
        for (int what = 0; what <= 5; what++) {
            Check.due("new count(" + what + ")", x.count(what), 0);
        }
        for (int what = 0; what <= 4; what++) {
            Check.due("new kept(" + what + ")", x.kept(what), 0);
        }
        Check.due("new about(0,0)", x.about(0, 0), -1);
    }

    private static void stages() {
        OrderEcho x = new OrderEcho();
        Check.due("stage 0", x.stage(0, 0, 6, 3, 9999), 0);
        Check.due("stage 1", x.stage(1, 0, 1, 0, 0), 1);
        Check.due("stage 2", x.stage(2, 1, 1, 0, 0), 2);
        Check.due("a customer of the digger", x.stage(2, 0, 1, 0, 0), 3);
        Check.due("shop at a store", x.stage(3, 3, 1, 0, 1), 4);
        Check.due("shop at the digger", x.stage(3, 0, 1, 0, 2), 5);
        Check.due("maker at a store", x.stage(1, 3, 1, 0, 3), 6);
        Check.due("the eighth", x.stage(3, 6, 1, 0, 4), 7);
        Check.due("a ninth", x.stage(3, 6, 1, 0, 4), -4);
        Check.due("a ninth at none", x.stage(3, 8, 1, 0, 4), -1);
        Check.due("a ninth that is bad", x.stage(0, 6, 1, 0, 4), -2);
        Check.due("stages", x.count(0), 8);
        Check.due("shops", x.count(5), 3);
        Check.due("stock at first", x.kept(1), 9999 + 1 + 2 + 3 + 4);
        x.week();
        Check.due("a ninth, a week on", x.stage(3, 6, 1, 0, 4), -3);
    }

    private static void stageRefusals() {
        OrderEcho x = new OrderEcho();
        Check.due("supplier of stage 0", x.stage(7, 1, 0, 9, -1), -1);
        Check.due("supplier of stage 0", x.stage(0, -1, 1, 0, 0), -1);
        Check.due("stage 0 as a shop", x.stage(3, 0, 1, 0, 0), -2);
        x.stage(0, 0, 1, 0, 0);
        x.stage(3, 0, 1, 0, 0);
        Check.due("supplier below", x.stage(1, -1, 1, 0, 0), -1);
        Check.due("supplier itself", x.stage(9, 2, 0, 0, 0), -1);
        Check.due("another digger", x.stage(0, 0, 1, 0, 0), -2);
        Check.due("kind 4", x.stage(4, 0, 1, 0, 0), -2);
        Check.due("kind -1", x.stage(-1, 0, 1, 0, 0), -2);
        Check.due("way 0", x.stage(1, 0, 0, 0, 0), -2);
        Check.due("way 7", x.stage(1, 0, 7, 0, 0), -2);
        Check.due("delay -1", x.stage(1, 0, 1, -1, 0), -2);
        Check.due("delay 4", x.stage(1, 0, 1, 4, 0), -2);
        Check.due("stock -1", x.stage(1, 0, 1, 0, -1), -2);
        Check.due("stock 10000", x.stage(1, 0, 1, 0, 10000), -2);
        Check.due("a shop supplies none", x.stage(1, 1, 1, 0, 0), -2);
        Check.due("nothing came of it", x.count(0), 2);
        x.week();
        Check.due("weeks went by", x.stage(1, 0, 1, 0, 0), -3);
        Check.due("bad ahead of state", x.stage(1, 1, 1, 0, 0), -2);
        Check.due("none ahead of state", x.stage(1, 2, 1, 0, 0), -1);
    }

    private static void settings() {
        OrderEcho x = Check.fiveStages();
        int[] least = {1, 1, 0, 0};
        int[] most = {50, 9999, 99, 99};
        int[] first = {1, 9999, 1, 1};
        for (int what = 0; what < 4; what++) {
            Check.due("set most " + what, x.set(4, what, most[what]), first[what]);
            Check.due("set over " + what, x.set(4, what, most[what] + 1), -2);
            Check.due("set under " + what, x.set(4, what, least[what] - 1), -2);
            Check.due("set least " + what, x.set(4, what, least[what]), most[what]);
            Check.due("set again " + what, x.set(4, what, least[what]), least[what]);
            Check.due("others keep theirs " + what, x.set(3, what, first[what]), first[what]);
        }
        Check.due("set of none", x.set(5, 0, 0), -1);
        Check.due("set of -1", x.set(-1, 0, 1), -1);
        Check.due("set what -1", x.set(0, -1, 100), -1);
        Check.due("set what 4", x.set(0, 4, 1), -1);
        Check.due("about lot", x.about(4, 4), 1);
        Check.due("about cap", x.about(4, 5), 1);
    }

    private static void rulesOfStages() {
        OrderEcho x = Check.fiveStages();
        Check.due("no rule yet", x.use(0, 0), -5);
        Check.due("none at first", x.use(0, -1), -1);
        Check.rule(x, "7");
        Check.rule(x, "8");
        Check.due("use", x.use(0, 1), -1);
        Check.due("use again", x.use(0, 0), 1);
        Check.due("about rule", x.about(0, 11), 0);
        Check.due("no rule 2", x.use(0, 2), -5);
        Check.due("no rule -2", x.use(0, -2), -5);
        Check.due("no stage", x.use(5, 0), -5);
        Check.due("no stage -1", x.use(-1, -1), -5);
        Check.due("none again", x.use(0, -1), 0);
        Check.due("about none", x.about(0, 11), -1);
        x.week();
        Check.due("without a rule 0 is ordered", x.about(0, 10), 0);
    }

    private static void allotments() {
        OrderEcho x = new OrderEcho();
        Check.due("allot", x.allot(2), 0);
        Check.due("allot 3", x.allot(3), -2);
        Check.due("allot -1", x.allot(-1), -2);
        Check.due("allot again", x.allot(1), 2);
        Check.due("count 3", x.count(3), 1);
        Check.due("allot 0", x.allot(0), 1);
        Check.due("count 3", x.count(3), 0);
    }

    private static void aboutStages() {
        OrderEcho x = Check.fiveStages();
        long[] due = {1, 0, 1, 1, 1, 9999, 20, 0, 0, 0, 0, -1, 0};
        for (int what = 0; what < due.length; what++) {
            Check.due("about(1," + what + ")", x.about(1, what), due[what]);
        }
        Check.due("supplier of stage 0", x.about(0, 1), -1);
        Check.due("about what 13", x.about(0, 13), -1);
        Check.due("about what -1", x.about(0, -1), -1);
        Check.due("about 5", x.about(5, 0), -1);
        Check.due("about -1", x.about(-1, 0), -1);
        Check.rule(x, "9");
        x.use(4, 0);
        x.demand(4, 8);
        Check.due("week 0", x.week(), 6);
        Check.due("stock", x.about(4, 6), 0);
        Check.due("owes", x.about(4, 7), 2);
        Check.due("seen", x.about(4, 9), 8);
        Check.due("ordered", x.about(4, 10), 9);
        Check.due("sold", x.about(4, 12), 6);
        Check.due("week 1", x.week(), 0);
        Check.due("seen by the store", x.about(2, 9), 9);
        Check.due("sent by the store", x.about(2, 12), 9);
        Check.due("on the way", x.about(4, 8), 9);
        Check.due("seen", x.about(4, 9), 0);
    }

    private static void places() {
        OrderEcho x = Check.fiveStages();
        Check.due("place of none", x.place(5), NO);
        Check.due("place of -1", x.place(-1), NO);
        Check.due("place at first", x.place(1), 20);
        Check.rule(x, "30");
        x.use(4, 0);
        x.demand(4, 10);
        x.week();
        Check.due("unknown orders count", x.place(4), 30 - 4);
        x.week();
        Check.due("sent, owed and ordered count", x.place(4), 60 - 4);
        Check.due("what it owes is less", x.place(2), 12 - 30);
        x.use(0, 0);
        x.week();
        Check.due("what is made is on the way", x.place(0), 60);
    }

    private static void slots() {
        OrderEcho x = Check.fiveStages();
        Check.due("slot 0", x.slot(0, 0), -1);
        Check.due("slot 3", x.slot(0, 3), -1);
        Check.due("slot of none", x.slot(5, 1), -1);
        Check.due("slot of -1", x.slot(-1, 1), -1);
        Check.rule(x, "week+5");
        x.use(0, 0);
        x.week();
        Check.due("made goods come last", x.slot(0, 2), 5);
        Check.due("slot 1", x.slot(0, 1), 0);
        x.week();
        Check.due("slot 1 a week on", x.slot(0, 1), 5);
        Check.due("slot 2 a week on", x.slot(0, 2), 6);
        Check.due("stock waits", x.about(0, 6), 30);
        x.week();
        Check.due("stock has them", x.about(0, 6), 35);
        OrderEcho y = new OrderEcho();
        y.stage(0, 0, 6, 0, 0);
        Check.rule(y, "week+1");
        y.use(0, 0);
        y.weeks(6, 0);
        for (int i = 1; i <= 6; i++) {
            Check.due("slot " + i + " of 6", y.slot(0, i), i);
        }
        Check.due("slot 7", y.slot(0, 7), -1);
        y.week();
        Check.due("six weeks on", y.about(0, 6), 1);
        Check.due("slot 6", y.slot(0, 6), 7);
    }

    private static void owed() {
        OrderEcho x = Check.fiveStages();
        Check.due("customer of another", x.owed(0, 2), -1);
        Check.due("a shop to itself", x.owed(3, 3), 0);
        Check.due("a shop to another", x.owed(3, 4), -1);
        Check.due("a digger to itself", x.owed(0, 0), -1);
        Check.due("none", x.owed(5, 5), -1);
        Check.due("no customer", x.owed(2, 5), -1);
        Check.due("no customer -1", x.owed(2, -1), -1);
        Check.due("none -1 to stage 0", x.owed(-1, 0), -1);
        Check.rule(x, "15");
        x.use(3, 0);
        x.use(4, 0);
        x.demand(3, 13);
        x.week();
        Check.due("to buyers", x.owed(3, 3), 3);
        Check.due("not known yet", x.owed(2, 3), 0);
        x.week();
        Check.due("the first had 12", x.owed(2, 3), 3);
        Check.due("the second none", x.owed(2, 4), 15);
        Check.due("all", x.about(2, 7), 18);
    }

    private static void costs() {
        OrderEcho x = Check.fiveStages();
        Check.due("cost of none", x.cost(5), NO);
        Check.due("cost of -1", x.cost(-1), NO);
        Check.due("cost at first", x.cost(4), 0);
        x.set(4, 2, 7);
        x.set(4, 3, 99);
        x.demand(4, 4);
        x.week();
        Check.due("hold", x.cost(4), 2 * 7);
        x.demand(4, 5);
        x.week();
        Check.due("lack", x.cost(4), 2 * 7 + 3 * 99);
        x.set(4, 3, 0);
        x.week();
        Check.due("no lack", x.cost(4), 2 * 7 + 3 * 99);
        Check.due("others", x.cost(0), 90);
    }

    private static void kept() {
        OrderEcho x = Check.fiveStages();
        Check.due("kept -1", x.kept(-1), NO);
        Check.due("kept 5", x.kept(5), NO);
        Check.rule(x, "seen+3");
        for (int s = 0; s < 5; s++) {
            x.use(s, 0);
        }
        for (int i = 0; i < 30; i++) {
            x.demand(3, i % 7);
            x.demand(4, i * i % 11);
            x.week();
            Check.due("kept", x.kept(0) + x.kept(1), x.kept(2) + x.kept(3) + x.kept(4));
        }
        Check.due("at first", x.kept(1), 78);
        Check.due("sold", x.kept(2), x.about(3, 12) + x.about(4, 12));
        Check.holds("made", x.kept(0) > 0);
    }
}
