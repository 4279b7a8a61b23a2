/** Section 2 and promises 1 to 11: each bound of the net, just inside it and just outside it. */
public final class NetEdgeTest {
    private static final long NO = Long.MIN_VALUE;
    private static final int LEAST = Integer.MIN_VALUE, MOST = Integer.MAX_VALUE;

    public static void main(String[] args) {
        newObject();
        eightStages();
        kindsOfStageZero();
        kindsOfOthers();
        suppliers();
        ways();
        delays();
        stocks();
        settings();
        settingsAtFirst();
        lots();
        caps();
        holdAndLack();
        rulesOfStages();
        allotments();
        abouts();
        places();
        slots();
        owed();
        kept();
        stagesOnlyAheadOfWeeks();
        Check.end("NetEdgeTest");
    }

    /** "No STAGES, no RULES, week 0, ALLOTMENT 0." */
    private static void newObject() {
        OrderEcho x = new OrderEcho();
        for (int what = 0; what <= 5; what++) {
            Check.due("new count(" + what + ")", x.count(what), 0);
        }
        for (int what = 0; what <= 4; what++) {
            Check.due("new kept(" + what + ")", x.kept(what), 0);
        }
        Check.due("no STAGE: about", x.about(0, 0), -1);
        Check.due("no STAGE: place", x.place(0), NO);
        Check.due("no STAGE: slot", x.slot(0, 1), -1);
        Check.due("no STAGE: owed", x.owed(0, 0), -1);
        Check.due("no STAGE: cost", x.cost(0), NO);
        Check.due("no STAGE: set", x.set(0, 0, 1), -1);
        Check.due("no STAGE: use", x.use(0, -1), -5);
        Check.due("no STAGE: demand", x.demand(0, 0), -1);
        Check.due("no STAGE: swing", x.swing(0, 0, 2), NO);
        Check.due("no STAGE: gain", x.gain(0, 2, 0), NO);
        Check.due("no STAGE: worst", x.worst(0, 0, 1, 0, 0), -1);
        Check.due("no worst row", x.worstAt(0), -1);
        x.stage(0, 0, 1, 0, 0);
        Check.due("no RULE: use", x.use(0, 0), -5);
        Check.due("no RULE: worth", x.worth(0, 0), NO);
        Check.due("ALLOTMENT 0", x.allot(0), 0);
        Check.due("t, a, m 1", x.echo(0, 0), 3);
        for (int d = 0; d <= 4; d++) {
            Check.due("weights 1", x.chance(1, d), 1);
        }
    }

    /** "STAGES are numbered from 0 on, 8 at most." */
    private static void eightStages() {
        OrderEcho x = new OrderEcho();
        for (int s = 0; s < 8; s++) {
            Check.due("STAGE " + s, x.stage(s == 0 ? 0 : 2, 0, 1, 0, s), s);
            Check.due("STAGES", x.count(0), s + 1);
        }
        Check.due("the ninth", x.stage(2, 0, 1, 0, 8), -4);
        Check.due("8 STAGES still", x.count(0), 8);
        Check.due("its STOCK is not there", x.kept(1), 28);
        Check.due("the last one is as told", x.about(7, 6), 7);
        Check.due("there is no STAGE 8", x.about(8, 6), -1);
        OrderEcho shops = new OrderEcho();
        shops.stage(0, 0, 1, 0, 0);
        for (int s = 1; s < 8; s++) {
            shops.stage(3, 0, 1, 0, 0);
        }
        Check.due("an eighth SHOP", shops.stage(3, 0, 1, 0, 0), -4);
        Check.due("7 SHOPS", shops.count(5), 7);
    }

    /** "STAGE 0 is a DIGGER": "supplier: of STAGE 0 0". */
    private static void kindsOfStageZero() {
        int[] kinds = {LEAST, -1, 1, 2, 3, 4, MOST};
        for (int kind : kinds) {
            OrderEcho x = new OrderEcho();
            Check.due("STAGE 0 of KIND " + kind, x.stage(kind, 0, 1, 0, 0), -2);
            Check.due("no STAGE came", x.count(0), 0);
            Check.due("no SHOP came", x.count(5), 0);
            Check.due("a DIGGER then", x.stage(0, 0, 1, 0, 0), 0);
        }
        int[] none = {LEAST, -1, 1, 7, MOST};
        for (int supplier : none) {
            OrderEcho x = new OrderEcho();
            Check.due("STAGE 0 with SUPPLIER " + supplier, x.stage(0, supplier, 1, 0, 0), -1);
            Check.due("no STAGE came", x.count(0), 0);
        }
        OrderEcho x = new OrderEcho();
        x.stage(0, 0, 1, 0, 0);
        Check.due("KIND of STAGE 0", x.about(0, 0), 0);
        Check.due("STAGE 0 has no SUPPLIER", x.about(0, 1), -1);
        Check.due("and is not its own CUSTOMER", x.owed(0, 0), -1);
    }

    /** "no other is" (a DIGGER); KINDS 1 to 3. */
    private static void kindsOfOthers() {
        for (int kind = 1; kind <= 3; kind++) {
            OrderEcho x = new OrderEcho();
            x.stage(0, 0, 1, 0, 0);
            Check.due("KIND " + kind, x.stage(kind, 0, 1, 0, 0), 1);
            Check.due("about KIND " + kind, x.about(1, 0), kind);
            Check.due("SHOPS with KIND " + kind, x.count(5), kind == 3 ? 1 : 0);
            Check.due("DEMAND of KIND " + kind, x.demand(1, 1), kind == 3 ? 0 : -1);
        }
        int[] kinds = {LEAST, -1, 0, 4, MOST};
        for (int kind : kinds) {
            OrderEcho x = new OrderEcho();
            x.stage(0, 0, 1, 0, 0);
            Check.due("another KIND " + kind, x.stage(kind, 0, 1, 0, 0), -2);
            Check.due("1 STAGE", x.count(0), 1);
        }
    }

    /** "a SUPPLIER: a STAGE with a lesser number that is no SHOP". */
    private static void suppliers() {
        OrderEcho x = new OrderEcho();
        x.stage(0, 0, 1, 0, 0);
        x.stage(1, 0, 1, 0, 0);
        x.stage(2, 1, 1, 0, 0);
        Check.due("the number just below", x.stage(3, 2, 1, 0, 0), 3);
        int[] none = {LEAST, -1, 4, 5, 8, MOST};
        for (int supplier : none) {
            Check.due("SUPPLIER " + supplier + " of STAGE 4", x.stage(2, supplier, 1, 0, 0), -1);
        }
        Check.due("a SHOP as SUPPLIER", x.stage(2, 3, 1, 0, 0), -2);
        Check.due("a SHOP as SUPPLIER of a SHOP", x.stage(3, 3, 1, 0, 0), -2);
        Check.due("4 STAGES", x.count(0), 4);
        for (int supplier = 0; supplier <= 2; supplier++) {
            Check.due("KIND " + supplier + " as SUPPLIER", x.stage(3, supplier, 1, 0, 0), 4 + supplier);
            Check.due("its SUPPLIER", x.about(4 + supplier, 1), supplier);
        }
        Check.due("the last one's SUPPLIER is itself: NONE", x.stage(3, 7, 1, 0, 0), -1);
        Check.due("the SHOP just below", x.stage(3, 6, 1, 0, 0), -2);
    }

    private static OrderEcho digger() {
        OrderEcho x = new OrderEcho();
        x.stage(0, 0, 1, 0, 0);
        return x;
    }

    /** "a WAY (weeks of goods to it, 1 .. 6)". */
    private static void ways() {
        int[] bad = {LEAST, -1, 0, 7, MOST};
        for (int way : bad) {
            OrderEcho x = new OrderEcho();
            Check.due("WAY " + way + " of STAGE 0", x.stage(0, 0, way, 0, 0), -2);
            Check.due("no STAGE", x.count(0), 0);
            OrderEcho y = digger();
            Check.due("WAY " + way + " of a STORE", y.stage(2, 0, way, 0, 0), -2);
            Check.due("no STORE", y.count(0), 1);
        }
        for (int way = 1; way <= 6; way += 5) {
            OrderEcho x = new OrderEcho();
            Check.due("WAY " + way, x.stage(0, 0, way, 0, 0), 0);
            Check.due("about WAY", x.about(0, 2), way);
            x.use(0, Check.rule(x, "5-week*5"));
            x.week();
            Check.due("in SLOT WAY at once", x.slot(0, way), 5);
            for (int w = 1; w < way; w++) {
                x.week();
                Check.due("a SLOT on", x.slot(0, way - w), 5);
                Check.due("not there yet", x.about(0, 6), 0);
            }
            x.week();
            Check.due("there in WAY weeks", x.about(0, 6), 5);
            Check.due("nothing ON THE WAY", x.about(0, 8), 0);
        }
    }

    /** "a DELAY (weeks of its orders, 0 .. 3)". */
    private static void delays() {
        int[] bad = {LEAST, -1, 4, MOST};
        for (int delay : bad) {
            OrderEcho x = new OrderEcho();
            Check.due("DELAY " + delay + " of STAGE 0", x.stage(0, 0, 1, delay, 0), -2);
            Check.due("no STAGE", x.count(0), 0);
            OrderEcho y = digger();
            Check.due("DELAY " + delay + " of a STORE", y.stage(2, 0, 1, delay, 0), -2);
            Check.due("no STORE", y.count(0), 1);
        }
        for (int delay = 0; delay <= 3; delay += 3) {
            OrderEcho x = digger();
            Check.due("DELAY " + delay, x.stage(2, 0, 1, delay, 0), 1);
            Check.due("about DELAY", x.about(1, 3), delay);
            x.use(1, Check.rule(x, "5-week*5"));
            for (int w = 0; w <= delay; w++) {
                x.week();
                Check.due("not known yet", x.owed(0, 1), 0);
            }
            x.week();
            Check.due("known in DELAY + 1 weeks", x.owed(0, 1), 5);
        }
    }

    /** "STOCK (0 .. 9999 at first)". */
    private static void stocks() {
        int[] bad = {LEAST, -1, 10000, MOST};
        for (int stock : bad) {
            OrderEcho x = new OrderEcho();
            Check.due("STOCK " + stock + " of STAGE 0", x.stage(0, 0, 1, 0, stock), -2);
            Check.due("no STAGE", x.count(0), 0);
            OrderEcho y = digger();
            Check.due("STOCK " + stock + " of a STORE", y.stage(2, 0, 1, 0, stock), -2);
            Check.due("no goods", y.kept(1), 0);
        }
        OrderEcho x = new OrderEcho();
        for (int s = 0; s < 8; s++) {
            int stock = s % 2 == 0 ? 9999 : 0;
            Check.due("STOCK " + stock, x.stage(s == 0 ? 0 : 1, 0, 1, 0, stock), s);
            Check.due("about STOCK", x.about(s, 6), stock);
        }
        Check.due("all that was in STOCK at first", x.kept(1), 4 * 9999);
        Check.due("and is", x.kept(3), 4 * 9999);
        OrderEcho y = digger();
        y.stage(3, 0, 1, 0, 9999);
        y.weeks(10, 999);
        y.demand(1, 8);
        y.week();
        Check.due("1 is left", y.about(1, 6), 1);
        y.use(0, Check.rule(y, "9999"));
        y.weeks(3, 0);
        Check.due("later STOCK may be above 9999", y.about(0, 6), 2 * 9999);
    }

    /** "LOT (1 .. 50", "CAP (1 .. 9999", "HOLD and LACK (costs, 0 .. 99": what set() takes. */
    private static void settings() {
        int[][] edges = {{1, 50}, {1, 9999}, {0, 99}, {0, 99}};
        for (int what = 0; what < 4; what++) {
            int least = edges[what][0];
            int most = edges[what][1];
            OrderEcho x = Check.fiveStages();
            x.set(2, what, 7);
            int[] bad = {LEAST, -1, least - 1, most + 1, MOST};
            for (int v : bad) {
                Check.due("set " + what + " to " + v, x.set(2, what, v), -2);
            }
            Check.due("still 7, and now the least", x.set(2, what, least), 7);
            Check.due("the least, and now the most", x.set(2, what, most), least);
            Check.due("the most, and the same again", x.set(2, what, most), most);
            Check.due("STAGE 4, the last one", x.set(4, what, 3), what == 1 ? 9999 : 1);
            Check.due("STAGE 5", x.set(5, what, 3), -1);
            Check.due("STAGE -1", x.set(-1, what, 3), -1);
            Check.due("STAGE 0", x.set(0, what, 3), what == 1 ? 9999 : 1);
        }
        OrderEcho x = Check.fiveStages();
        int[] none = {LEAST, -1, 4, MOST};
        for (int what : none) {
            Check.due("set what " + what, x.set(0, what, 1), -1);
            Check.due("set what " + what + " of no STAGE", x.set(5, what, 1), -1);
            Check.due("set what " + what + " to -1", x.set(0, what, -1), -1);
        }
        Check.due("NONE ahead of BAD", x.set(5, 0, 0), -1);
    }

    /** "1 at first", "9999 at first", "none at first: 0 is ordered", "1, 1 at first". */
    private static void settingsAtFirst() {
        OrderEcho x = Check.fiveStages();
        for (int s = 0; s < 5; s++) {
            Check.due("LOT at first", x.about(s, 4), 1);
            Check.due("CAP at first", x.about(s, 5), 9999);
            Check.due("RULE at first", x.about(s, 11), -1);
            Check.due("LOT", x.set(s, 0, 50), 1);
            Check.due("CAP", x.set(s, 1, 1), 9999);
            Check.due("HOLD", x.set(s, 2, 99), 1);
            Check.due("LACK", x.set(s, 3, 99), 1);
            Check.due("LOT now", x.about(s, 4), 50);
            Check.due("CAP now", x.about(s, 5), 1);
        }
        x.weeks(3, 9);
        for (int s = 0; s < 5; s++) {
            Check.due("0 is ordered without a RULE", x.about(s, 10), 0);
        }
    }

    private static int ordered(int lot, int cap, String text) {
        OrderEcho x = digger();
        x.set(0, 0, lot);
        x.set(0, 1, cap);
        x.use(0, Check.rule(x, text));
        x.week();
        Check.due("what is MADE", x.kept(0), x.about(0, 10));
        return x.about(0, 10);
    }

    /** "at least 0; up to the next multiple of LOT". */
    private static void lots() {
        Check.due("0-1 with LOT 1", ordered(1, 9999, "0-1"), 0);
        Check.due("0 with LOT 1", ordered(1, 9999, "0"), 0);
        Check.due("1 with LOT 1", ordered(1, 9999, "1"), 1);
        Check.due("0-1 with LOT 50", ordered(50, 9999, "0-1"), 0);
        Check.due("0 with LOT 50", ordered(50, 9999, "0"), 0);
        Check.due("1 with LOT 50", ordered(50, 9999, "1"), 50);
        Check.due("49 with LOT 50", ordered(50, 9999, "49"), 50);
        Check.due("50 with LOT 50", ordered(50, 9999, "50"), 50);
        Check.due("51 with LOT 50", ordered(50, 9999, "51"), 100);
        Check.due("the least worth", ordered(50, 9999, "0-9999*9999*9999"), 0);
    }

    /** "at most CAP". */
    private static void caps() {
        Check.due("1 with CAP 1", ordered(1, 1, "1"), 1);
        Check.due("2 with CAP 1", ordered(1, 1, "2"), 1);
        Check.due("0 with CAP 1", ordered(1, 1, "0"), 0);
        Check.due("9998 with CAP 9999", ordered(1, 9999, "9998"), 9998);
        Check.due("9999 with CAP 9999", ordered(1, 9999, "9999"), 9999);
        Check.due("10000 with CAP 9999", ordered(1, 9999, "9999+1"), 9999);
        Check.due("CAP 49 is less than LOT 50", ordered(50, 49, "1"), 49);
        Check.due("CAP 50 is just LOT 50", ordered(50, 50, "1"), 50);
        Check.due("CAP 99 is no multiple of LOT 50", ordered(50, 99, "51"), 99);
        Check.due("CAP 100 is two of LOT 50", ordered(50, 100, "51"), 100);
        Check.due("the greatest worth with LOT 50", ordered(50, 9999, "9999*9999*9999"), 9999);
        Check.due("the greatest worth with LOT 7", ordered(7, 9999, "9999*9999*9999"), 9999);
        Check.due("9999 with LOT 2", ordered(2, 9999, "9999"), 9999);
    }

    /** "COST of a STAGE is HOLD times STOCK and LACK times all that it OWES more." */
    private static void holdAndLack() {
        int[] rates = {0, 1, 99};
        for (int hold : rates) {
            for (int lack : rates) {
                OrderEcho x = digger();
                x.stage(3, 0, 1, 0, 10);
                x.set(1, 2, hold);
                x.set(1, 3, lack);
                x.demand(1, 9);
                x.week();
                Check.due("1 in STOCK", x.cost(1), hold);
                x.demand(1, 1);
                x.week();
                Check.due("0 in STOCK, 0 OWED", x.cost(1), hold);
                x.demand(1, 1);
                x.week();
                Check.due("1 OWED", x.cost(1), hold + lack);
            }
        }
    }

    /** "(-1: none): which it had (NONE). -5: there is none such." */
    private static void rulesOfStages() {
        OrderEcho x = digger();
        Check.due("none, and had none", x.use(0, -1), -1);
        Check.due("RULE 0 of none", x.use(0, 0), -5);
        for (int r = 0; r < 12; r++) {
            Check.rule(x, "" + r);
            Check.due("the last RULE", x.use(0, r), r - 1);
            Check.due("one too many", x.use(0, r + 1), -5);
            Check.due("about RULE", x.about(0, 11), r);
        }
        int[] none = {LEAST, -5, -2, 12, MOST};
        for (int r : none) {
            Check.due("RULE " + r, x.use(0, r), -5);
        }
        int[] stages = {LEAST, -1, 1, MOST};
        for (int s : stages) {
            Check.due("STAGE " + s, x.use(s, 0), -5);
            Check.due("STAGE " + s + ", none", x.use(s, -1), -5);
        }
        Check.due("nothing changed", x.about(0, 11), 11);
        Check.due("none again", x.use(0, -1), 11);
        Check.due("about no RULE", x.about(0, 11), -1);
        x.week();
        Check.due("0 is ordered", x.about(0, 10), 0);
    }

    /** "ALLOTMENT (0 .. 2): what it was. BAD." */
    private static void allotments() {
        int[] bad = {LEAST, -1, 3, MOST};
        for (int how = 0; how <= 2; how++) {
            OrderEcho x = new OrderEcho();
            Check.due("allot " + how, x.allot(how), 0);
            for (int other : bad) {
                Check.due("allot " + other, x.allot(other), -2);
            }
            Check.due("count 3", x.count(3), how);
            Check.due("what it was", x.allot(0), how);
        }
    }

    /** "what 0 KIND .. 12": all of them for each STAGE, and none beyond. */
    private static void abouts() {
        OrderEcho x = Check.fiveStages();
        long[][] due = {
            {0, -1, 2, 0, 1, 9999, 30, 0, 0, 0, 0, -1, 0}, {1, 0, 1, 1, 1, 9999, 20, 0, 0, 0, 0, -1, 0},
            {2, 1, 1, 0, 1, 9999, 12, 0, 0, 0, 0, -1, 0}, {3, 2, 2, 0, 1, 9999, 10, 0, 0, 0, 0, -1, 0},
            {3, 2, 1, 0, 1, 9999, 6, 0, 0, 0, 0, -1, 0}};
        for (int s = 0; s < 5; s++) {
            for (int what = 0; what <= 12; what++) {
                Check.due("about(" + s + "," + what + ")", x.about(s, what), due[s][what]);
            }
        }
        int[] none = {LEAST, -1, 13, MOST};
        for (int what : none) {
            Check.due("about(0," + what + ")", x.about(0, what), -1);
            Check.due("about(4," + what + ")", x.about(4, what), -1);
        }
        int[] stages = {LEAST, -1, 5, 7, 8, MOST};
        for (int s : stages) {
            for (int what = 0; what <= 12; what++) {
                Check.due("about(" + s + "," + what + ")", x.about(s, what), -1);
            }
        }
    }

    private static void places() {
        OrderEcho x = Check.fiveStages();
        Check.due("place of STAGE 0", x.place(0), 30);
        Check.due("place of the last STAGE", x.place(4), 6);
        Check.due("cost of STAGE 0", x.cost(0), 0);
        Check.due("cost of the last STAGE", x.cost(4), 0);
        int[] none = {LEAST, -1, 5, 7, 8, MOST};
        for (int s : none) {
            Check.due("place(" + s + ")", x.place(s), NO);
            Check.due("cost(" + s + ")", x.cost(s), NO);
        }
        x.demand(4, 7);
        x.week();
        Check.due("POSITION below 0", x.place(4), -1);
        OrderEcho y = Check.fiveStages();
        y.demand(4, 6);
        y.week();
        Check.due("POSITION 0", y.place(4), 0);
    }

    /** "SLOT i of a STAGE (1 .. WAY)." */
    private static void slots() {
        OrderEcho x = new OrderEcho();
        for (int way = 1; way <= 6; way++) {
            int s = x.stage(way == 1 ? 0 : 2, 0, way, 0, 0);
            Check.due("SLOT 1 of WAY " + way, x.slot(s, 1), 0);
            Check.due("SLOT WAY of WAY " + way, x.slot(s, way), 0);
            Check.due("SLOT 0 of WAY " + way, x.slot(s, 0), -1);
            Check.due("SLOT WAY + 1 of WAY " + way, x.slot(s, way + 1), -1);
            Check.due("SLOT -1 of WAY " + way, x.slot(s, -1), -1);
            Check.due("the least of WAY " + way, x.slot(s, LEAST), -1);
            Check.due("the most of WAY " + way, x.slot(s, MOST), -1);
        }
        Check.due("SLOT of STAGE 6", x.slot(6, 1), -1);
        Check.due("SLOT of STAGE -1", x.slot(-1, 1), -1);
        Check.due("SLOT of the least", x.slot(LEAST, 1), -1);
        Check.due("SLOT of the most", x.slot(MOST, 1), -1);
    }

    /** "(of a SHOP: to itself, for buyers)": those six pairs and no other. */
    private static void owed() {
        OrderEcho x = Check.fiveStages();
        for (int s = -1; s <= 8; s++) {
            for (int c = -1; c <= 8; c++) {
                boolean pair = s == 0 && c == 1 || s == 1 && c == 2 || s == 2 && (c == 3 || c == 4)
                    || (s == 3 || s == 4) && c == s;
                Check.due("owed(" + s + "," + c + ")", x.owed(s, c), pair ? 0 : -1);
            }
        }
        int[] far = {LEAST, MOST};
        for (int v : far) {
            Check.due("owed(" + v + ",1)", x.owed(v, 1), -1);
            Check.due("owed(0," + v + ")", x.owed(0, v), -1);
            Check.due("owed(" + v + "," + v + ")", x.owed(v, v), -1);
        }
    }

    /** "What 0 .. 4": and none beyond; "0 and 1 are 2, 3 and 4". */
    private static void kept() {
        OrderEcho x = Check.fiveStages();
        long[] due = {0, 78, 0, 78, 0};
        for (int what = 0; what <= 4; what++) {
            Check.due("kept(" + what + ")", x.kept(what), due[what]);
        }
        int[] none = {LEAST, -1, 5, MOST};
        for (int what : none) {
            Check.due("kept(" + what + ")", x.kept(what), NO);
        }
        x.use(0, Check.rule(x, "9999"));
        x.use(1, 0);
        x.use(2, 0);
        x.use(3, 0);
        x.use(4, 0);
        for (int i = 0; i < 20; i++) {
            x.weeks(20, 999);
            Check.due("KEPT", x.kept(0) + x.kept(1), x.kept(2) + x.kept(3) + x.kept(4));
        }
        Check.due("400 weeks of 9999", x.kept(0), 400 * 9999);
    }

    /** "STATE: weeks went by": 0 of them, and 1. */
    private static void stagesOnlyAheadOfWeeks() {
        OrderEcho x = digger();
        Check.due("no week yet", x.stage(1, 0, 1, 0, 0), 1);
        x.week();
        Check.due("1 week", x.stage(1, 0, 1, 0, 0), -3);
        Check.due("BAD ahead of STATE", x.stage(1, 0, 0, 0, 0), -2);
        Check.due("NONE ahead of STATE", x.stage(1, 2, 1, 0, 0), -1);
        Check.due("NONE ahead of BAD", x.stage(1, 2, 0, 0, 0), -1);
        Check.due("2 STAGES", x.count(0), 2);
    }
}
