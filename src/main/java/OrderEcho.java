/** The echo of orders along a net of diggers, makers, stores and shops. */
public final class OrderEcho {
    public static final int NONE = -1, BAD = -2, STATE = -3, FULL = -4;
    public static final long NO = Long.MIN_VALUE;
    public static final long SPENT = Long.MIN_VALUE + 1L;

    private static final int NOT_SUCH = -5;
    private static final int FAULT_BASE = -10;
    private static final int DIGGER = 0, SHOP = 3;
    private static final int MOST_STAGES = 8, MOST_WAY = 6, MOST_DELAY = 3;
    private static final int MOST_STOCK = 9999, MOST_CAP = 9999, MOST_LOT = 50, MOST_RATE = 99;
    private static final int MOST_DEMAND = 999, MOST_WEEKS = 400, MOST_AT_ONCE = 20;
    private static final int MOST_RULES = 12, MOST_BYTES = 120, MOST_OPEN = 6;
    private static final int MOST_AHEAD = 6;
    /** Orders come to be known after 4 weeks at most, and a mean is of 4 weeks. */
    private static final int RECENT = 4;
    private static final int KEPT_WEEKS = 40;
    private static final int MOST_ECHO = 30;

    private final Plan plan = new Plan();
    private final Rules rules = new Rules();
    private final Tape tape = new Tape();
    private final Share share = new Share();
    private final Past past = new Past();
    private final Line line = new Line();
    private final Fraction quotient = new Fraction();
    private final Levels levels = new Levels();
    private final Claims claimants = new Claims();
    private final long[] polynomial = new long[5];
    /** The first one is the net as it is; the others are the weeks that worst() looks ahead. */
    private final Flow[] flows = new Flow[MOST_AHEAD + 1];
    private final Flow flow = new Flow();
    private final int[] told = new int[MOST_STAGES];
    private final int[] tried = new int[MOST_STAGES];
    private final int[] worstRow = new int[MOST_AHEAD];
    private int worstWeeks;

    public OrderEcho() {
        flows[0] = flow;
        for (int i = 1; i < flows.length; i++) {
            flows[i] = new Flow();
        }
    }

    // ---- the net

    public int stage(int kind, int supplier, int way, int delay, int stock) {
        int s = plan.stages;
        boolean first = s == 0;
        if (first ? supplier != 0 : !plan.has(supplier)) {
            return NONE;
        }
        if (first ? kind != DIGGER : !within(kind, DIGGER + 1, SHOP)) {
            return BAD;
        }
        if (!within(way, 1, MOST_WAY) || !within(delay, 0, MOST_DELAY) || !within(stock, 0, MOST_STOCK)) {
            return BAD;
        }
        if (!first && plan.isShop(supplier)) {
            return BAD;
        }
        if (flow.weeks > 0) {
            return STATE;
        }
        if (s >= MOST_STAGES) {
            return FULL;
        }
        plan.enlarge(kind, first ? NONE : supplier, way, delay, stock);
        flow.stock[s] = stock;
        return s;
    }

    public int set(int s, int what, int v) {
        if (!plan.has(s) || !within(what, 0, 3)) {
            return NONE;
        }
        int[] row = plan.settings(what);
        int least = what < 2 ? 1 : 0;
        int most = what == 0 ? MOST_LOT : what == 1 ? MOST_CAP : MOST_RATE;
        if (!within(v, least, most)) {
            return BAD;
        }
        int was = row[s];
        row[s] = v;
        return was;
    }

    public int use(int s, int rule) {
        if (!plan.has(s) || rule != NONE && !rules.has(rule)) {
            return NOT_SUCH;
        }
        int was = plan.rule[s];
        plan.rule[s] = rule;
        return was;
    }

    public int allot(int how) {
        if (!within(how, 0, 2)) {
            return BAD;
        }
        int was = plan.allotment;
        plan.allotment = how;
        return was;
    }

    public int about(int s, int what) {
        if (!plan.has(s)) {
            return NONE;
        }
        switch (what) {
            case 0: return plan.kind[s];
            case 1: return plan.supplier[s];
            case 2: return plan.way[s];
            case 3: return plan.delay[s];
            case 4: return plan.lot[s];
            case 5: return plan.cap[s];
            case 6: return flow.stock[s];
            case 7: return flow.owes[s];
            case 8: return flow.coming[s];
            case 9: return flow.latest(flow.seen, s);
            case 10: return flow.latest(flow.ordered, s);
            case 11: return plan.rule[s];
            case 12: return flow.sent[s];
            default: return NONE;
        }
    }

    public long place(int s) {
        return plan.has(s) ? flow.position(s) : NO;
    }

    public int slot(int s, int i) {
        if (!plan.has(s) || !within(i, 1, plan.way[s])) {
            return NONE;
        }
        return flow.slots[s * MOST_WAY + i - 1];
    }

    public int owed(int s, int customer) {
        if (!plan.has(s) || !plan.has(customer)) {
            return NONE;
        }
        if (plan.isShop(s)) {
            return customer == s ? flow.owes[s] : NONE;
        }
        return plan.supplier[customer] == s ? flow.owedTo[customer] : NONE;
    }

    public long cost(int s) {
        return plan.has(s) ? flow.cost[s] : NO;
    }

    public long kept(int what) {
        switch (what) {
            case 0: return flow.made;
            case 1: return plan.firstStock;
            case 2: return flow.sold;
            case 3: return flow.total(flow.stock);
            case 4: return flow.total(flow.coming);
            default: return NO;
        }
    }

    // ---- weeks

    public int demand(int s, int d) {
        if (!plan.isShop(s)) {
            return NONE;
        }
        if (!within(d, 0, MOST_DEMAND)) {
            return BAD;
        }
        int was = told[s];
        told[s] = d;
        return was;
    }

    public int week() {
        if (plan.stages == 0) {
            return STATE;
        }
        if (flow.weeks >= MOST_WEEKS) {
            return FULL;
        }
        return goBy();
    }

    public int weeks(int n, int d) {
        if (!within(n, 1, MOST_AT_ONCE) || !within(d, 0, MOST_DEMAND)) {
            return BAD;
        }
        if (plan.stages == 0) {
            return STATE;
        }
        if (flow.weeks + n > MOST_WEEKS) {
            return FULL;
        }
        int sold = 0;
        for (int i = 0; i < n; i++) {
            for (int s = 0; s < told.length; s++) {
                told[s] = d;
            }
            sold += goBy();
        }
        return sold;
    }

    private int goBy() {
        int sold = flow.pass(plan, rules, share, told);
        for (int s = 0; s < told.length; s++) {
            told[s] = 0;
        }
        past.note(flow, plan.stages);
        return sold;
    }

    // ---- rules

    public int feed(long w, int n) {
        if (!within(n, 1, 8)) {
            return BAD;
        }
        if (tape.length + n > MOST_BYTES) {
            return FULL;
        }
        for (int i = n - 1; i >= 0; i--) {
            tape.append((int) (w >>> (8 * i)) & 255);
        }
        return tape.length;
    }

    public int rule() {
        if (rules.count >= MOST_RULES) {
            return FULL;
        }
        boolean fine = tape.read();
        tape.length = 0;
        return fine ? rules.keep(tape.code, tape.size) : FAULT_BASE - tape.at;
    }

    public long worth(int rule, int s) {
        return rules.has(rule) && plan.has(s) ? rules.valueOf(rule, flow, s) : NO;
    }

    // ---- swings

    public long swing(int s, int what, int n) {
        return swings(s, n) && within(what, 0, 1) ? past.spread(s, what, n, flow.weeks) : NO;
    }

    public long gain(int s, int n, int what) {
        if (!swings(s, n) || !within(what, 0, 1)) {
            return NO;
        }
        long below = past.spread(s, 0, n, flow.weeks);
        if (below == 0) {
            return NO;
        }
        quotient.become(past.spread(s, 1, n, flow.weeks), below);
        return quotient.tell(what);
    }

    private boolean swings(int s, int n) {
        return plan.has(s) && within(n, 2, KEPT_WEEKS) && n <= flow.weeks;
    }

    public int straight(int t, int a, int m) {
        if (!isShare(t) || !isShare(a) || !within(m, 1, 8)) {
            return BAD;
        }
        line.t.become(t / 100, t % 100);
        line.a.become(a / 100, a % 100);
        line.m.become(m, 1);
        return 0;
    }

    private static boolean isShare(int v) {
        return v >= 0 && within(v % 100, 1, 20) && v / 100 <= 2 * (v % 100);
    }

    public long echo(int k, int what) {
        if (!within(k, 0, MOST_ECHO) || !within(what, 0, 1)) {
            return NO;
        }
        line.begin();
        for (int w = 0; w <= k; w++) {
            line.pass(w);
        }
        return line.o.tell(what);
    }

    public long pole(int which, int i, int what) {
        if (!within(which, 0, 1) || !within(i, 0, 2) || !within(what, 0, 1)) {
            return NO;
        }
        if (which == 0) {
            line.above(i);
        } else {
            line.below(i);
        }
        return (which == 0 ? line.sum : line.coefficient).tell(what);
    }

    public long loud(int n, int what) {
        if (!within(n, 1, MOST_ECHO) || !within(what, 0, 1)) {
            return NO;
        }
        line.loudness(n);
        return line.sum.tell(what);
    }

    public int steady(long c, int k) {
        if (!within(k, 1, 4) || !endsBelow(c, 8 * (k + 1))) {
            return BAD;
        }
        for (int i = 0; i <= k; i++) {
            int v = ((int) (c >>> (8 * i)) & 255) - 100;
            if (!within(v, -99, 99) || i == 0 && v == 0) {
                return BAD;
            }
            polynomial[i] = v;
        }
        for (int top = k; top > 0; top--) {
            if (Math.abs(polynomial[0]) <= Math.abs(polynomial[top])) {
                return 0;
            }
            lower(top);
        }
        return 1;
    }

    /** Works from both ends to the middle, as each pair of coefficients needs both old ones. */
    private void lower(int top) {
        if (top < 2 || top >= polynomial.length) {
            return;
        }
        long first = polynomial[0];
        long last = polynomial[top];
        for (int i = 0, j = top; i <= j; i++, j--) {
            long low = polynomial[i];
            long high = polynomial[j];
            polynomial[i] = first * low - last * high;
            polynomial[j] = first * high - last * low;
        }
    }

    // ---- levels

    public int chances(int weights) {
        if (!within(weights, 1, 99999)) {
            return BAD;
        }
        int rest = weights;
        for (int d = Levels.MOST; d >= 0; d--) {
            levels.weights[d] = rest % 10;
            rest /= 10;
        }
        return 0;
    }

    public long chance(int n, int x) {
        if (!within(n, 1, 6) || x < 0) {
            return NO;
        }
        levels.addUp(n, levels.sums);
        return x < levels.sums.length ? levels.sums[x] : 0;
    }

    public int level(int which, int leads, int costs) {
        if (!levels.understand(leads, costs)) {
            return BAD;
        }
        if (!within(which, 0, 1)) {
            return NONE;
        }
        levels.work();
        return which == 0 ? levels.near : levels.far();
    }

    public long levelCost(int which, int leads, int costs, int y) {
        if (!within(which, 0, 1) || !within(y, -Levels.SPAN, Levels.SPAN) || !levels.understand(leads, costs)) {
            return NO;
        }
        levels.work();
        return which == 0 ? levels.nearCost(y) : levels.farCost(y);
    }

    // ---- worst demands, claims

    public long worst(int s, int what, int n, int lo, int hi) {
        if (!plan.isShop(s) || !within(what, 0, 1)) {
            return NONE;
        }
        if (!within(n, 1, MOST_AHEAD) || !within(lo, 0, MOST_DEMAND) || !within(hi, lo, MOST_DEMAND)) {
            return BAD;
        }
        if (flow.weeks + n > MOST_WEEKS) {
            return STATE;
        }
        long most = NONE;
        int mostRow = 0;
        for (int row = 0; row < 1 << n; row++) {
            lookAhead(s, row, n, lo, hi);
            long value = what == 0 ? flows[n].costOfAll() : greatestOrder(n);
            if (value > most) {
                most = value;
                mostRow = row;
            }
        }
        for (int i = 0; i < n; i++) {
            worstRow[i] = isHigh(mostRow, i, n) ? hi : lo;
        }
        worstWeeks = n;
        return most;
    }

    private static boolean isHigh(int row, int i, int n) {
        return (row >> (n - 1 - i) & 1) == 1;
    }

    /** Rows come in order, so the weeks in which a row is as the one before are there already. */
    private void lookAhead(int s, int row, int n, int lo, int hi) {
        int same = Math.max(0, n - Integer.bitCount(row ^ (row - 1)));
        for (int i = same; i < n; i++) {
            flows[i + 1].copy(flows[i]);
            tried[s] = isHigh(row, i, n) ? hi : lo;
            flows[i + 1].pass(plan, rules, share, tried);
        }
        tried[s] = 0;
    }

    private int greatestOrder(int n) {
        int most = 0;
        for (int i = 1; i <= n; i++) {
            most = Math.max(most, flows[i].latest(flows[i].ordered, 0));
        }
        return most;
    }

    public int worstAt(int i) {
        return i >= 0 && i < worstWeeks ? worstRow[i] : NONE;
    }

    public int gets(int how, int s, long claims, int k, int i) {
        if (i < 0 || i >= k) {
            return NONE;
        }
        if (!areClaimsFine(how, s, k) || !claimants.readClaims(claims, k)) {
            return BAD;
        }
        return claimants.gotBy(i, how, s);
    }

    public int calm(int how, int s, long wants, long claims, int k) {
        if (!areClaimsFine(how, s, k) || !claimants.readWants(wants, k) || !claimants.readClaims(claims, k)) {
            return BAD;
        }
        return claimants.isCalm(how, s) ? 1 : 0;
    }

    public long calmest(int how, int s, long wants, int k) {
        if (!areClaimsFine(how, s, k) || k > 3 || !claimants.readWants(wants, k)) {
            return BAD;
        }
        return claimants.firstCalm(how, s) ? claimants.tellClaims() : NONE;
    }

    private static boolean areClaimsFine(int how, int s, int k) {
        return within(how, 0, 2) && within(s, 0, 40) && within(k, 2, Claims.MOST);
    }

    public int count(int what) {
        switch (what) {
            case 0: return plan.stages;
            case 1: return rules.count;
            case 2: return flow.weeks;
            case 3: return plan.allotment;
            case 4: return tape.length;
            case 5: return plan.shops;
            default: return NONE;
        }
    }

    private static boolean within(int v, int least, int most) {
        return v >= least && v <= most;
    }

    /** A number that tells a row of digits has no more of them than are told; one below 0 has all of them. */
    private static boolean endsBelow(long digits, int bits) {
        return digits >>> bits == 0;
    }

    /** What is told of the stages and doesn't change as weeks go by. */
    private static final class Plan {
        final int[] kind = new int[MOST_STAGES];
        final int[] supplier = new int[MOST_STAGES];
        final int[] way = new int[MOST_STAGES];
        final int[] delay = new int[MOST_STAGES];
        final int[] lot = new int[MOST_STAGES];
        final int[] cap = new int[MOST_STAGES];
        final int[] hold = new int[MOST_STAGES];
        final int[] lack = new int[MOST_STAGES];
        final int[] rule = new int[MOST_STAGES];
        int stages;
        int shops;
        int allotment;
        long firstStock;

        boolean has(int s) {
            return s >= 0 && s < stages;
        }

        boolean isShop(int s) {
            return has(s) && kind[s] == SHOP;
        }

        int[] settings(int what) {
            switch (what) {
                case 0: return lot;
                case 1: return cap;
                case 2: return hold;
                default: return lack;
            }
        }

        void enlarge(int kindOfIt, int from, int weeksOfWay, int weeksOfDelay, int stock) {
            int s = stages;
            if (s >= MOST_STAGES) {
                return;
            }
            kind[s] = kindOfIt;
            supplier[s] = from;
            way[s] = weeksOfWay;
            delay[s] = weeksOfDelay;
            lot[s] = 1;
            cap[s] = MOST_CAP;
            hold[s] = 1;
            lack[s] = 1;
            rule[s] = NONE;
            firstStock += stock;
            shops += kindOfIt == SHOP ? 1 : 0;
            stages++;
        }
    }

    /** Goods, orders and costs of the stages at one time. */
    private static final class Flow {
        final int[] stock = new int[MOST_STAGES];
        final int[] slots = new int[MOST_STAGES * MOST_WAY];
        /** All that is in the slots of a stage. */
        final int[] coming = new int[MOST_STAGES];
        /** All that a stage owes, to its customers or to buyers. */
        final int[] owes = new int[MOST_STAGES];
        /** What the supplier of a stage owes to it. */
        final int[] owedTo = new int[MOST_STAGES];
        /** What a stage ordered that is not sent to it yet, known or not. */
        final int[] unsent = new int[MOST_STAGES];
        final int[] sent = new int[MOST_STAGES];
        final int[] seen = new int[MOST_STAGES * RECENT];
        final int[] ordered = new int[MOST_STAGES * RECENT];
        final long[] cost = new long[MOST_STAGES];
        /** The one that is going by counts already, so that rules see the same week in it and after it. */
        int weeks;
        long made;
        long sold;

        void copy(Flow from) {
            System.arraycopy(from.stock, 0, stock, 0, stock.length);
            System.arraycopy(from.slots, 0, slots, 0, slots.length);
            System.arraycopy(from.coming, 0, coming, 0, coming.length);
            System.arraycopy(from.owes, 0, owes, 0, owes.length);
            System.arraycopy(from.owedTo, 0, owedTo, 0, owedTo.length);
            System.arraycopy(from.unsent, 0, unsent, 0, unsent.length);
            System.arraycopy(from.sent, 0, sent, 0, sent.length);
            System.arraycopy(from.seen, 0, seen, 0, seen.length);
            System.arraycopy(from.ordered, 0, ordered, 0, ordered.length);
            System.arraycopy(from.cost, 0, cost, 0, cost.length);
            weeks = from.weeks;
            made = from.made;
            sold = from.sold;
        }

        /** A week goes by: what was sold in it. */
        int pass(Plan plan, Rules rules, Share share, int[] demands) {
            weeks++;
            long before = sold;
            for (int s = 0; s < plan.stages; s++) {
                arrive(s);
            }
            for (int s = 0; s < plan.stages; s++) {
                learn(plan, s, demands[s]);
            }
            for (int s = 0; s < plan.stages; s++) {
                send(plan, s, share);
            }
            for (int s = 0; s < plan.stages; s++) {
                give(plan, s, rules.has(plan.rule[s]) ? rules.valueOf(plan.rule[s], this, s) : 0);
                cost[s] += (long) plan.hold[s] * stock[s] + (long) plan.lack[s] * owes[s];
            }
            return (int) (sold - before);
        }

        private void arrive(int s) {
            int first = s * MOST_WAY;
            int goods = slots[first];
            System.arraycopy(slots, first + 1, slots, first, MOST_WAY - 1);
            slots[first + MOST_WAY - 1] = 0;
            stock[s] += goods;
            coming[s] -= goods;
        }

        /** Suppliers have lesser numbers: a stage's row is cleared ahead of its customers' orders. */
        private void learn(Plan plan, int s, int demand) {
            int now = weeks - 1;
            boolean shop = plan.isShop(s);
            seen[s * RECENT + now % RECENT] = shop ? demand : 0;
            owes[s] += shop ? demand : 0;
            int from = plan.supplier[s];
            int given = now - 1 - plan.delay[s];
            if (given < 0 || !plan.has(from)) {
                return;
            }
            int order = ordered[s * RECENT + given % RECENT];
            owedTo[s] += order;
            owes[from] += order;
            seen[from * RECENT + now % RECENT] += order;
        }

        private void send(Plan plan, int s, Share share) {
            int out = 0;
            if (plan.isShop(s)) {
                out = Math.min(stock[s], owes[s]);
                sold += out;
            } else {
                share.size = 0;
                for (int c = s + 1; c < plan.stages; c++) {
                    if (plan.supplier[c] == s) {
                        share.append(owedTo[c]);
                    }
                }
                share.split(plan.allotment, stock[s]);
                out = deliver(plan, s, share);
            }
            stock[s] -= out;
            owes[s] -= out;
            sent[s] += out;
        }

        private int deliver(Plan plan, int s, Share share) {
            int out = 0;
            int i = 0;
            for (int c = s + 1; c < plan.stages; c++) {
                if (plan.supplier[c] == s && i < share.size) {
                    int part = share.got[i];
                    i++;
                    owedTo[c] -= part;
                    unsent[c] -= part;
                    putOnWay(plan, c, part);
                    out += part;
                }
            }
            return out;
        }

        private void putOnWay(Plan plan, int s, int goods) {
            slots[s * MOST_WAY + plan.way[s] - 1] += goods;
            coming[s] += goods;
        }

        private void give(Plan plan, int s, long want) {
            long lot = Math.max(1, plan.lot[s]);
            long lots = (Math.max(0L, want) + lot - 1) / lot;
            int order = (int) Math.min(lots * lot, plan.cap[s]);
            ordered[s * RECENT + (weeks - 1) % RECENT] = order;
            if (plan.kind[s] == DIGGER) {
                made += order;
                putOnWay(plan, s, order);
            } else {
                unsent[s] += order;
            }
        }

        int latest(int[] rows, int s) {
            return weeks == 0 ? 0 : rows[s * RECENT + (weeks - 1) % RECENT];
        }

        long position(int s) {
            return (long) stock[s] + coming[s] + unsent[s] - owes[s];
        }

        /** A field that a rule names, in the order of the words of the tape. */
        long field(int which, int s) {
            switch (which) {
                case 0: return stock[s];
                case 1: return owes[s];
                case 2: return coming[s];
                case 3: return latest(seen, s);
                case 4: return mean(s);
                case 5: return Math.max(0, weeks - 1);
                default: return position(s);
            }
        }

        private long mean(int s) {
            int n = Math.min(RECENT, weeks);
            long sum = 0;
            for (int w = weeks - n; w < weeks; w++) {
                sum += seen[s * RECENT + w % RECENT];
            }
            return n == 0 ? 0 : sum / n;
        }

        long total(int[] row) {
            long sum = 0;
            for (int v : row) {
                sum += v;
            }
            return sum;
        }

        long costOfAll() {
            long sum = 0;
            for (long v : cost) {
                sum += v;
            }
            return sum;
        }
    }

    /** What each stage saw and ordered in the latest weeks that are kept. */
    private static final class Past {
        final int[] seen = new int[MOST_STAGES * KEPT_WEEKS];
        final int[] ordered = new int[MOST_STAGES * KEPT_WEEKS];

        void note(Flow flow, int stages) {
            int at = Math.max(0, flow.weeks - 1) % KEPT_WEEKS;
            for (int s = 0; s < stages; s++) {
                seen[s * KEPT_WEEKS + at] = flow.latest(flow.seen, s);
                ordered[s * KEPT_WEEKS + at] = flow.latest(flow.ordered, s);
            }
        }

        long spread(int s, int what, int n, int weeks) {
            int[] rows = what == 0 ? seen : ordered;
            long sum = 0;
            long squares = 0;
            for (int w = Math.max(0, weeks - n); w < weeks; w++) {
                long v = rows[s * KEPT_WEEKS + w % KEPT_WEEKS];
                sum += v;
                squares += v * v;
            }
            return n * squares - sum * sum;
        }
    }

    /** Rules as rows of steps for a stack: a number, or (below 0) a field or what to do with two values. */
    private static final class Rules {
        static final int FIRST_FIELD = -1, FIRST_DEED = -8;
        static final int PLUS = -8, MINUS = -9, TIMES = -10, BY = -11, LESSER = -12, GREATER = -13;
        static final long EDGE = 1000000000L;

        final int[] steps = new int[MOST_RULES * MOST_BYTES];
        final int[] sizes = new int[MOST_RULES];
        /** At each of 7 depths at most 3 values wait for another one. */
        final long[] stack = new long[32];
        int count;

        boolean has(int rule) {
            return rule >= 0 && rule < count;
        }

        int keep(int[] code, int size) {
            int number = count;
            if (number >= MOST_RULES) {
                return FULL;
            }
            System.arraycopy(code, 0, steps, number * MOST_BYTES, size);
            sizes[number] = size;
            count++;
            return number;
        }

        long valueOf(int rule, Flow flow, int s) {
            int top = 0;
            int first = rule * MOST_BYTES;
            for (int i = first; i < first + sizes[rule]; i++) {
                int step = steps[i];
                if (step > FIRST_DEED) {
                    if (top < stack.length) {
                        stack[top] = step >= 0 ? step : flow.field(FIRST_FIELD - step, s);
                        top++;
                    }
                } else if (top > 1) {
                    top--;
                    stack[top - 1] = bound(apply(step, stack[top - 1], stack[top]));
                }
            }
            return top > 0 ? stack[0] : 0;
        }

        private static long apply(int deed, long x, long y) {
            switch (deed) {
                case PLUS: return x + y;
                case MINUS: return x - y;
                case TIMES: return x * y;
                case BY: return y == 0 ? 0 : x / y;
                case LESSER: return Math.min(x, y);
                default: return Math.max(x, y);
            }
        }

        private static long bound(long v) {
            return Math.max(-EDGE, Math.min(EDGE, v));
        }
    }

    /** The bytes that were fed, and the reading of a rule from them; where it stops is the fault. */
    private static final class Tape {
        /** Fields in the order of Flow.field, then what takes two sums; each ends with a blank. */
        static final String WORDS = "stock owed way seen mean week place min max ";
        static final int FIELDS = 7;

        final int[] bytes = new int[MOST_BYTES];
        final int[] code = new int[MOST_BYTES];
        int length;
        int at;
        int size;

        void append(int b) {
            if (length < bytes.length) {
                bytes[length] = b;
                length++;
            }
        }

        boolean read() {
            at = 0;
            size = 0;
            return readSum(0) && at == length;
        }

        private boolean isNext(char c) {
            return at < length && bytes[at] == c;
        }

        private boolean take(char c) {
            boolean there = isNext(c);
            at += there ? 1 : 0;
            return there;
        }

        private void emit(int step) {
            if (size < code.length) {
                code[size] = step;
                size++;
            }
        }

        private boolean readSum(int open) {
            boolean fine = readProduct(open);
            for (int i = 0; i < MOST_BYTES && fine && (isNext('+') || isNext('-')); i++) {
                int deed = isNext('+') ? Rules.PLUS : Rules.MINUS;
                at++;
                fine = readProduct(open);
                emit(deed);
            }
            return fine;
        }

        private boolean readProduct(int open) {
            boolean fine = readAtom(open);
            for (int i = 0; i < MOST_BYTES && fine && (isNext('*') || isNext('/')); i++) {
                int deed = isNext('*') ? Rules.TIMES : Rules.BY;
                at++;
                fine = readAtom(open);
                emit(deed);
            }
            return fine;
        }

        private boolean readAtom(int open) {
            if (isDigit()) {
                readNumber();
                return true;
            }
            if (isNext('(')) {
                return openOne(open) && readSum(open + 1) && take(')');
            }
            int word = readWord();
            if (word < 0) {
                return false;
            }
            if (word < FIELDS) {
                emit(Rules.FIRST_FIELD - word);
                return true;
            }
            boolean fine = openOne(open) && readSum(open + 1) && take(',') && readSum(open + 1) && take(')');
            emit(word == FIELDS ? Rules.LESSER : Rules.GREATER);
            return fine;
        }

        private boolean openOne(int open) {
            return open < MOST_OPEN && take('(');
        }

        private boolean isDigit() {
            return at < length && bytes[at] >= '0' && bytes[at] <= '9';
        }

        private void readNumber() {
            int v = 0;
            for (int i = 0; i < 4 && isDigit(); i++) {
                v = v * 10 + bytes[at] - '0';
                at++;
            }
            emit(v);
        }

        /** Goes behind the word that stands there, or (below 0) to the first byte that fits no word. */
        private int readWord() {
            int word = 0;
            int fits = 0;
            int most = 0;
            boolean fit = true;
            for (int i = 0; i < WORDS.length(); i++) {
                char c = WORDS.charAt(i);
                if (c == ' ' && fit) {
                    at += fits;
                    return word;
                }
                if (c == ' ') {
                    word++;
                    fits = 0;
                    fit = true;
                } else if (fit && at + fits < length && bytes[at + fits] == c) {
                    fits++;
                    most = Math.max(most, fits);
                } else {
                    fit = false;
                }
            }
            at += most;
            return NONE;
        }
    }

    /** An allotment of goods among claims. */
    private static final class Share {
        final int[] claims = new int[MOST_STAGES];
        final int[] got = new int[MOST_STAGES];
        int size;

        void append(int claim) {
            if (size < claims.length) {
                claims[size] = claim;
                size++;
            }
        }

        void split(int how, int stock) {
            long all = 0;
            for (int i = 0; i < size; i++) {
                all += claims[i];
                got[i] = 0;
            }
            if (how == 0 || stock >= all) {
                byNumbers(stock);
            } else if (how == 1) {
                byParts(stock, all);
            } else {
                evenly(stock);
            }
        }

        private void byNumbers(int stock) {
            int left = stock;
            for (int i = 0; i < size; i++) {
                got[i] = Math.min(left, claims[i]);
                left -= got[i];
            }
        }

        private void byParts(int stock, long all) {
            if (all <= 0) {
                return;
            }
            int left = stock;
            for (int i = 0; i < size; i++) {
                got[i] = (int) ((long) stock * claims[i] / all);
                left -= got[i];
            }
            oneEach(left);
        }

        private void oneEach(int stock) {
            int left = stock;
            for (int i = 0; i < size && left > 0; i++) {
                if (got[i] < claims[i]) {
                    got[i]++;
                    left--;
                }
            }
        }

        /** Many rounds of 1 each go at once: each turn but the last two gives someone all of its claim. */
        private void evenly(int stock) {
            int left = stock;
            for (int turn = 0; turn < size + 2 && left > 0; turn++) {
                int open = 0;
                int least = left;
                for (int i = 0; i < size; i++) {
                    if (got[i] < claims[i]) {
                        open++;
                        least = Math.min(least, claims[i] - got[i]);
                    }
                }
                if (open == 0 || left < open) {
                    oneEach(left);
                    return;
                }
                int each = Math.min(least, left / open);
                for (int i = 0; i < size; i++) {
                    if (got[i] < claims[i]) {
                        got[i] += each;
                        left -= each;
                    }
                }
            }
        }
    }

    /** A fraction without a common divisor; once spent, so is all that is made of it. */
    private static final class Fraction {
        static final long EDGE = 1000000000L;

        long above;
        long below = 1;
        boolean spent;

        void become(long up, long down) {
            long divisor = commonDivisor(Math.abs(up), Math.abs(down));
            if (down == 0 || divisor == 0) {
                spend();
                return;
            }
            above = (down < 0 ? -up : up) / divisor;
            below = Math.abs(down) / divisor;
            spent = Math.abs(above) > EDGE || below > EDGE;
        }

        private static long commonDivisor(long x, long y) {
            long a = x;
            long b = y;
            for (int i = 0; i < 1000 && b != 0; i++) {
                long rest = a % b;
                a = b;
                b = rest;
            }
            return a;
        }

        private void spend() {
            above = 0;
            below = 1;
            spent = true;
        }

        void becomeSum(Fraction x, Fraction y) {
            if (x.spent || y.spent) {
                spend();
            } else {
                become(x.above * y.below + y.above * x.below, x.below * y.below);
            }
        }

        void becomeDifference(Fraction x, Fraction y) {
            if (x.spent || y.spent) {
                spend();
            } else {
                become(x.above * y.below - y.above * x.below, x.below * y.below);
            }
        }

        void becomeProduct(Fraction x, Fraction y) {
            if (x.spent || y.spent) {
                spend();
            } else {
                become(x.above * y.above, x.below * y.below);
            }
        }

        long tell(int what) {
            return spent ? SPENT : what == 0 ? above : below;
        }
    }

    /** A straight rule and its echo, week by week. */
    private static final class Line {
        final Fraction t = new Fraction();
        final Fraction a = new Fraction();
        final Fraction m = new Fraction();
        final Fraction one = new Fraction();
        final Fraction d = new Fraction();
        final Fraction f = new Fraction();
        final Fraction p = new Fraction();
        final Fraction o = new Fraction();
        final Fraction part = new Fraction();
        final Fraction coefficient = new Fraction();
        final Fraction sum = new Fraction();

        Line() {
            t.above = 1;
            a.above = 1;
            m.above = 1;
            one.above = 1;
        }

        void begin() {
            f.become(0, 1);
            p.become(0, 1);
            sum.become(0, 1);
        }

        void pass(int week) {
            d.become(week == 0 ? 1 : 0, 1);
            part.becomeDifference(d, f);
            part.becomeProduct(t, part);
            f.becomeSum(f, part);
            p.becomeDifference(p, d);
            part.becomeProduct(m, f);
            part.becomeDifference(part, p);
            part.becomeProduct(a, part);
            o.becomeSum(d, part);
            p.becomeSum(p, o);
            // The position behind the order counts as on the way to the week's own echo.
            o.spent = o.spent || p.spent;
        }

        void below(int i) {
            coefficient.becomeDifference(one, t);
            part.becomeDifference(one, a);
            if (i == 0) {
                coefficient.become(1, 1);
            } else if (i == 1) {
                coefficient.becomeSum(coefficient, part);
                coefficient.above = -coefficient.above;
            } else {
                coefficient.becomeProduct(coefficient, part);
            }
        }

        void above(int i) {
            begin();
            for (int j = 0; j <= i; j++) {
                pass(j);
                below(i - j);
                part.becomeProduct(o, coefficient);
                sum.becomeSum(sum, part);
            }
        }

        void loudness(int n) {
            begin();
            for (int w = 0; w < n; w++) {
                pass(w);
                part.becomeProduct(o, o);
                sum.becomeSum(sum, part);
            }
        }
    }

    /** Levels of two stages, one behind the other. */
    private static final class Levels {
        static final int MOST = 4, SPAN = 30, MOST_LEAD = 3;
        /** A far level less the greatest sum of three weeks' demands. */
        static final int LOWEST = -SPAN - MOST * MOST_LEAD;

        final int[] weights = new int[MOST + 1];
        final long[] sums = new long[6 * MOST + 1];
        final long[] nearSums = new long[(MOST_LEAD + 1) * MOST + 1];
        final long[] farSums = new long[MOST_LEAD * MOST + 1];
        final long[] nearCosts = new long[SPAN - LOWEST + 1];
        int nearLead;
        int farLead;
        int nearHold;
        int farHold;
        int lack;
        int near;
        long whole;

        Levels() {
            for (int d = 0; d <= MOST; d++) {
                weights[d] = 1;
            }
        }

        boolean understand(int leads, int costs) {
            nearLead = leads / 10;
            farLead = leads % 10;
            nearHold = costs / 1000;
            farHold = costs / 100 % 10;
            lack = costs % 100;
            return within(nearLead, 1, MOST_LEAD) && within(farLead, 1, MOST_LEAD)
                && within(nearHold, 1, 9) && within(farHold, 1, 9) && within(lack, 1, 99);
        }

        /** From the greatest sum down, so that the weights of a week less stand there still. */
        void addUp(int n, long[] row) {
            for (int x = 0; x < row.length; x++) {
                row[x] = x == 0 ? 1 : 0;
            }
            for (int i = 0; i < n; i++) {
                for (int x = row.length - 1; x >= 0; x--) {
                    long sum = 0;
                    for (int d = 0; d <= MOST && d <= x; d++) {
                        sum += weights[d] * row[x - d];
                    }
                    row[x] = sum;
                }
            }
        }

        void work() {
            addUp(nearLead + 1, nearSums);
            addUp(farLead, farSums);
            whole = 0;
            for (long w : nearSums) {
                whole += w;
            }
            for (int y = LOWEST; y <= SPAN; y++) {
                nearCosts[y - LOWEST] = nearSum(y);
            }
            near = 0;
            for (int y = 1; y <= SPAN; y++) {
                near = nearCost(y) < nearCost(near) ? y : near;
            }
        }

        /** Below -30 this is the straight line that the document tells: all sums are above y there. */
        private long nearSum(int y) {
            long sum = 0;
            for (int x = 0; x < nearSums.length; x++) {
                long each = (long) nearHold * (y - x);
                if (x > y) {
                    each += (long) (lack + nearHold + farHold) * (x - y);
                }
                sum += nearSums[x] * each;
            }
            return sum;
        }

        long nearCost(int y) {
            return within(y, LOWEST, SPAN) ? nearCosts[y - LOWEST] : 0;
        }

        long farCost(int y) {
            long sum = 0;
            for (int x = 0; x < farSums.length; x++) {
                long held = (long) farHold * (y - x) * whole;
                sum += farSums[x] * (held + nearCost(Math.min(near, y - x)));
            }
            return sum;
        }

        int far() {
            int best = 0;
            long least = farCost(0);
            for (int y = 1; y <= SPAN; y++) {
                long here = farCost(y);
                if (here < least) {
                    least = here;
                    best = y;
                }
            }
            return best;
        }
    }

    /** Customers of one who has too little, and what they claim. */
    private static final class Claims {
        static final int MOST = 4, MOST_CLAIM = 12, MOST_WANT = 9;

        final Share share = new Share();
        final int[] wants = new int[MOST];

        boolean readClaims(long digits, int k) {
            share.size = 0;
            boolean fine = endsBelow(digits, 4 * k);
            for (int i = 0; i < k && i < MOST; i++) {
                int claim = (int) (digits >>> (4 * i)) & 15;
                fine = fine && claim <= MOST_CLAIM;
                share.append(claim);
            }
            return fine;
        }

        boolean readWants(long digits, int k) {
            share.size = 0;
            boolean fine = endsBelow(digits, 4 * k);
            for (int i = 0; i < k && i < MOST; i++) {
                wants[i] = (int) (digits >>> (4 * i)) & 15;
                fine = fine && wants[i] <= MOST_WANT;
                share.append(0);
            }
            return fine;
        }

        long tellClaims() {
            long digits = 0;
            for (int i = share.size - 1; i >= 0; i--) {
                digits = digits * 16 + share.claims[i];
            }
            return digits;
        }

        int gotBy(int i, int how, int s) {
            share.split(how, s);
            return i >= 0 && i < share.size ? share.got[i] : 0;
        }

        private int distance(int i, int how, int s) {
            share.split(how, s);
            return Math.abs(share.got[i] - wants[i]);
        }

        /** The last customers first: in a search through all rows these refuse most rows at once. */
        boolean isCalm(int how, int s) {
            for (int i = Math.min(share.size, MOST) - 1; i >= 0; i--) {
                int claim = share.claims[i];
                int far = distance(i, how, s);
                boolean nearer = false;
                for (int c = 0; c <= MOST_CLAIM && far > 0 && !nearer; c++) {
                    share.claims[i] = c;
                    nearer = distance(i, how, s) < far;
                }
                share.claims[i] = claim;
                if (nearer) {
                    return false;
                }
            }
            return true;
        }

        boolean firstCalm(int how, int s) {
            int rows = 1;
            for (int i = 0; i < share.size; i++) {
                rows *= MOST_CLAIM + 1;
            }
            for (int row = 0; row < rows; row++) {
                int rest = row;
                for (int i = share.size - 1; i >= 0; i--) {
                    share.claims[i] = rest % (MOST_CLAIM + 1);
                    rest /= MOST_CLAIM + 1;
                }
                if (isCalm(how, s)) {
                    return true;
                }
            }
            return false;
        }
    }
}
