import java.math.BigInteger;
import java.util.ArrayList;
import java.util.List;

/** The document once more, in the plainest way and with the whole library: what ModelTest compares with. */
final class Model {
    static final int NONE = -1, BAD = -2, STATE = -3, FULL = -4;
    static final long NO = Long.MIN_VALUE, SPENT = Long.MIN_VALUE + 1;
    static final String[] FIELDS = {"stock", "owed", "way", "seen", "mean", "week", "place"};

    static final class Order {
        final Stage by;
        final int known;
        final int amount;

        Order(Stage by, int known, int amount) {
            this.by = by;
            this.known = known;
            this.amount = amount;
        }
    }

    static final class Stage {
        int number;
        int kind;
        int supplier;
        int way;
        int delay;
        int lot = 1;
        int cap = 9999;
        int hold = 1;
        int lack = 1;
        int rule = -1;
        int stock;
        int demand;
        int buyers;
        int[] owed = new int[8];
        int[] slots;
        long cost;
        int sent;
        final List<Integer> seen = new ArrayList<>();
        final List<Integer> ordered = new ArrayList<>();

        Stage copy() {
            Stage c = new Stage();
            c.number = number;
            c.kind = kind;
            c.supplier = supplier;
            c.way = way;
            c.delay = delay;
            c.lot = lot;
            c.cap = cap;
            c.hold = hold;
            c.lack = lack;
            c.rule = rule;
            c.stock = stock;
            c.demand = demand;
            c.buyers = buyers;
            c.owed = owed.clone();
            c.slots = slots.clone();
            c.cost = cost;
            c.sent = sent;
            c.seen.addAll(seen);
            c.ordered.addAll(ordered);
            return c;
        }
    }

    List<Stage> stages = new ArrayList<>();
    List<String> rules = new ArrayList<>();
    List<Order> orders = new ArrayList<>();
    StringBuilder tape = new StringBuilder();
    int weeks;
    int allotment;
    long made;
    long first;
    long sold;
    int[] worstRow = {};
    int t = 101;
    int a = 101;
    int m = 1;
    int[] weights = {1, 1, 1, 1, 1};

    private Model copy() {
        Model c = new Model();
        for (Stage s : stages) {
            c.stages.add(s.copy());
        }
        for (Order o : orders) {
            c.orders.add(new Order(c.stages.get(o.by.number), o.known, o.amount));
        }
        c.rules = rules;
        c.weeks = weeks;
        c.allotment = allotment;
        return c;
    }

    private boolean none(int s) {
        return s < 0 || s >= stages.size();
    }

    private boolean noShop(int s) {
        return none(s) || stages.get(s).kind != 3;
    }

    private static boolean out(long v, long lo, long hi) {
        return v < lo || v > hi;
    }

    int stage(int kind, int supplier, int way, int delay, int stock) {
        int s = stages.size();
        if (s == 0 && supplier != 0 || s > 0 && none(supplier)) {
            return NONE;
        }
        if (out(kind, 0, 3) || (kind == 0) != (s == 0) || out(way, 1, 6) || out(delay, 0, 3) || out(stock, 0, 9999)) {
            return BAD;
        }
        if (s > 0 && stages.get(supplier).kind == 3) {
            return BAD;
        }
        if (weeks > 0) {
            return STATE;
        }
        if (s == 8) {
            return FULL;
        }
        Stage x = new Stage();
        x.number = s;
        x.kind = kind;
        x.supplier = s == 0 ? -1 : supplier;
        x.way = way;
        x.delay = delay;
        x.stock = stock;
        x.slots = new int[way + 1];
        first += stock;
        stages.add(x);
        return s;
    }

    int set(int s, int what, int v) {
        if (none(s) || out(what, 0, 3)) {
            return NONE;
        }
        Stage x = stages.get(s);
        int was;
        if (what == 0) {
            if (out(v, 1, 50)) {
                return BAD;
            }
            was = x.lot;
            x.lot = v;
        } else if (what == 1) {
            if (out(v, 1, 9999)) {
                return BAD;
            }
            was = x.cap;
            x.cap = v;
        } else {
            if (out(v, 0, 99)) {
                return BAD;
            }
            was = what == 2 ? x.hold : x.lack;
            if (what == 2) {
                x.hold = v;
            } else {
                x.lack = v;
            }
        }
        return was;
    }

    int use(int s, int rule) {
        if (none(s) || rule < -1 || rule >= rules.size()) {
            return -5;
        }
        int was = stages.get(s).rule;
        stages.get(s).rule = rule;
        return was;
    }

    int allot(int how) {
        if (out(how, 0, 2)) {
            return BAD;
        }
        int was = allotment;
        allotment = how;
        return was;
    }

    private static int last(List<Integer> row) {
        return row.isEmpty() ? 0 : row.get(row.size() - 1);
    }

    private static int allOf(int[] row) {
        int sum = 0;
        for (int v : row) {
            sum += v;
        }
        return sum;
    }

    private static int owes(Stage x) {
        return x.buyers + allOf(x.owed);
    }

    int about(int s, int what) {
        if (none(s) || out(what, 0, 12)) {
            return NONE;
        }
        Stage x = stages.get(s);
        int[] all = {x.kind, x.supplier, x.way, x.delay, x.lot, x.cap, x.stock, owes(x), allOf(x.slots),
            last(x.seen), last(x.ordered), x.rule, x.sent};
        return all[what];
    }

    long place(int s) {
        if (none(s)) {
            return NO;
        }
        Stage x = stages.get(s);
        long sum = x.stock + allOf(x.slots) - owes(x);
        for (Order o : orders) {
            sum += o.by == x ? o.amount : 0;
        }
        return sum + (x.supplier < 0 ? 0 : stages.get(x.supplier).owed[s]);
    }

    int slot(int s, int i) {
        return none(s) || out(i, 1, stages.get(s).way) ? NONE : stages.get(s).slots[i];
    }

    int owed(int s, int customer) {
        if (none(s) || none(customer)) {
            return NONE;
        }
        if (stages.get(s).kind == 3) {
            return s == customer ? stages.get(s).buyers : NONE;
        }
        return stages.get(customer).supplier == s ? stages.get(s).owed[customer] : NONE;
    }

    long cost(int s) {
        return none(s) ? NO : stages.get(s).cost;
    }

    long kept(int what) {
        if (out(what, 0, 4)) {
            return NO;
        }
        long stock = 0;
        long slots = 0;
        for (Stage x : stages) {
            stock += x.stock;
            slots += allOf(x.slots);
        }
        return new long[] {made, first, sold, stock, slots}[what];
    }

    int demand(int s, int d) {
        if (noShop(s)) {
            return NONE;
        }
        if (out(d, 0, 999)) {
            return BAD;
        }
        int was = stages.get(s).demand;
        stages.get(s).demand = d;
        return was;
    }

    int week() {
        if (stages.isEmpty()) {
            return STATE;
        }
        return weeks == 400 ? FULL : pass();
    }

    int weeks(int n, int d) {
        if (out(n, 1, 20) || out(d, 0, 999)) {
            return BAD;
        }
        if (stages.isEmpty()) {
            return STATE;
        }
        if (weeks + n > 400) {
            return FULL;
        }
        int sum = 0;
        for (int i = 0; i < n; i++) {
            for (Stage x : stages) {
                x.demand = d;
            }
            sum += pass();
        }
        return sum;
    }

    private int pass() {
        for (Stage x : stages) {
            x.stock += x.slots[1];
            for (int i = 1; i < x.way; i++) {
                x.slots[i] = x.slots[i + 1];
            }
            x.slots[x.way] = 0;
        }
        for (Stage x : stages) {
            x.seen.add(x.kind == 3 ? x.demand : 0);
            x.buyers += x.kind == 3 ? x.demand : 0;
            x.demand = 0;
        }
        List<Order> later = new ArrayList<>();
        for (Order o : orders) {
            if (o.known == weeks) {
                Stage to = stages.get(o.by.supplier);
                to.owed[o.by.number] += o.amount;
                to.seen.set(weeks, last(to.seen) + o.amount);
            } else {
                later.add(o);
            }
        }
        orders = later;
        int now = 0;
        for (Stage x : stages) {
            if (x.kind == 3) {
                int out = Math.min(x.stock, x.buyers);
                x.buyers -= out;
                x.stock -= out;
                x.sent += out;
                now += out;
            } else {
                int[] got = split(allotment, x.stock, x.owed);
                for (int c = 0; c < 8; c++) {
                    x.owed[c] -= got[c];
                    x.stock -= got[c];
                    x.sent += got[c];
                    if (got[c] > 0) {
                        stages.get(c).slots[stages.get(c).way] += got[c];
                    }
                }
            }
        }
        sold += now;
        weeks++;
        for (Stage x : stages) {
            long want = Math.max(0, x.rule < 0 ? 0 : value(rules.get(x.rule), x));
            while (want % x.lot != 0) {
                want++;
            }
            int order = (int) Math.min(want, x.cap);
            x.ordered.add(order);
            if (x.kind == 0) {
                made += order;
                x.slots[x.way] += order;
            } else {
                orders.add(new Order(x, weeks + x.delay, order));
            }
            x.cost += (long) x.hold * x.stock + (long) x.lack * owes(x);
        }
        return now;
    }

    static int[] split(int how, int stock, int[] owed) {
        int[] got = new int[owed.length];
        int left = stock;
        long all = allOf(owed);
        if (stock >= all) {
            return owed.clone();
        }
        if (how == 0) {
            for (int i = 0; i < owed.length; i++) {
                while (left > 0 && got[i] < owed[i]) {
                    got[i]++;
                    left--;
                }
            }
            return got;
        }
        if (how == 1) {
            for (int i = 0; i < owed.length; i++) {
                got[i] = BigInteger.valueOf(stock).multiply(BigInteger.valueOf(owed[i]))
                    .divide(BigInteger.valueOf(all)).intValue();
                left -= got[i];
            }
        }
        while (left > 0) {
            for (int i = 0; i < owed.length; i++) {
                if (left > 0 && got[i] < owed[i]) {
                    got[i]++;
                    left--;
                }
            }
        }
        return got;
    }

    int feed(long w, int n) {
        if (out(n, 1, 8)) {
            return BAD;
        }
        if (tape.length() + n > 120) {
            return FULL;
        }
        for (int i = 1; i <= n; i++) {
            tape.append((char) (w >> 8 * (n - i) & 255));
        }
        return tape.length();
    }

    int rule() {
        if (rules.size() == 12) {
            return FULL;
        }
        String text = tape.toString();
        tape.setLength(0);
        int fault = fault(text);
        if (fault >= 0) {
            return -10 - fault;
        }
        rules.add(text);
        return rules.size() - 1;
    }

    /** A machine that looks at one byte after another and keeps what is open in a text: ( or m or n behind a comma. */
    static int fault(String text) {
        String open = "";
        String begun = "";
        for (int at = 0; at < text.length(); at++) {
            char c = text.charAt(at);
            boolean whole = begun.matches("[0-9]{1,4}|stock|owed|way|seen|mean|week|place|\\)");
            boolean pair = begun.equals("min") || begun.equals("max");
            if (whole && "+-*/".indexOf(c) >= 0) {
                begun = "";
            } else if (whole && c == ')' && (open.endsWith("(") || open.endsWith("n"))) {
                open = open.substring(0, open.length() - 1);
                begun = ")";
            } else if (whole && c == ',' && open.endsWith("m")) {
                open = open.substring(0, open.length() - 1) + "n";
                begun = "";
            } else if (c == '(' && (begun.isEmpty() || pair) && open.length() < 6) {
                open += pair ? "m" : "(";
                begun = "";
            } else if (begins(begun + c)) {
                begun += c;
            } else {
                return at;
            }
        }
        boolean whole = begun.matches("[0-9]{1,4}|stock|owed|way|seen|mean|week|place|\\)");
        return whole && open.isEmpty() ? -1 : text.length();
    }

    private static boolean begins(String part) {
        for (String word : new String[] {"stock", "owed", "way", "seen", "mean", "week", "place", "min", "max"}) {
            if (word.startsWith(part)) {
                return true;
            }
        }
        return part.matches("[0-9]{1,4}");
    }

    private static long bound(BigInteger v) {
        BigInteger edge = BigInteger.valueOf(1000000000);
        return v.min(edge).max(edge.negate()).longValue();
    }

    /** Splits a text at its last sign of the weakest kind that is in no bracket. */
    private long value(String text, Stage x) {
        for (String signs : new String[] {"+-", "*/"}) {
            int deep = 0;
            for (int i = text.length() - 1; i >= 0; i--) {
                char c = text.charAt(i);
                deep += c == ')' ? 1 : c == '(' ? -1 : 0;
                if (deep == 0 && signs.indexOf(c) >= 0) {
                    return join(c, value(text.substring(0, i), x), value(text.substring(i + 1), x));
                }
            }
        }
        if (text.startsWith("(")) {
            return value(text.substring(1, text.length() - 1), x);
        }
        if (text.startsWith("min(") || text.startsWith("max(")) {
            int deep = 0;
            for (int i = 4; i < text.length(); i++) {
                char c = text.charAt(i);
                deep += c == '(' ? 1 : c == ')' ? -1 : 0;
                if (deep == 0 && c == ',') {
                    long l = value(text.substring(4, i), x);
                    long r = value(text.substring(i + 1, text.length() - 1), x);
                    return text.startsWith("min") ? Math.min(l, r) : Math.max(l, r);
                }
            }
        }
        if (Character.isDigit(text.charAt(0))) {
            return Long.parseLong(text);
        }
        return field(text, x);
    }

    private static long join(char sign, long l, long r) {
        BigInteger x = BigInteger.valueOf(l);
        BigInteger y = BigInteger.valueOf(r);
        if (sign == '+') {
            return bound(x.add(y));
        }
        if (sign == '-') {
            return bound(x.subtract(y));
        }
        if (sign == '*') {
            return bound(x.multiply(y));
        }
        return r == 0 ? 0 : bound(x.divide(y));
    }

    private long field(String name, Stage x) {
        if (name.equals("stock")) {
            return x.stock;
        }
        if (name.equals("owed")) {
            return owes(x);
        }
        if (name.equals("way")) {
            return allOf(x.slots);
        }
        if (name.equals("seen")) {
            return last(x.seen);
        }
        if (name.equals("week")) {
            return weeks == 0 ? 0 : weeks - 1;
        }
        if (name.equals("place")) {
            return place(x.number);
        }
        long sum = 0;
        int n = 0;
        for (int i = x.seen.size() - 1; i >= 0 && n < 4; i--) {
            sum += x.seen.get(i);
            n++;
        }
        return n == 0 ? 0 : sum / n;
    }

    long worth(int rule, int s) {
        return rule < 0 || rule >= rules.size() || none(s) ? NO : value(rules.get(rule), stages.get(s));
    }

    long swing(int s, int what, int n) {
        if (none(s) || out(what, 0, 1) || out(n, 2, 40) || n > weeks) {
            return NO;
        }
        List<Integer> row = what == 0 ? stages.get(s).seen : stages.get(s).ordered;
        long twice = 0;
        for (int i = weeks - n; i < weeks; i++) {
            for (int j = weeks - n; j < weeks; j++) {
                long d = row.get(i) - row.get(j);
                twice += d * d;
            }
        }
        return twice / 2;
    }

    long gain(int s, int n, int what) {
        long below = swing(s, 0, n);
        if (below == NO || below == 0 || out(what, 0, 1)) {
            return NO;
        }
        return tell(new BigInteger[] {BigInteger.valueOf(swing(s, 1, n)), BigInteger.valueOf(below)}, what);
    }

    int straight(int newT, int newA, int newM) {
        if (noFraction(newT) || noFraction(newA) || out(newM, 1, 8)) {
            return BAD;
        }
        t = newT;
        a = newA;
        m = newM;
        return 0;
    }

    private static boolean noFraction(int v) {
        return v < 0 || out(v % 100, 1, 20) || (double) (v / 100) / (v % 100) > 2;
    }

    /** Null is spent. */
    private static BigInteger[] fraction(BigInteger above, BigInteger below) {
        BigInteger g = above.gcd(below);
        BigInteger edge = BigInteger.valueOf(1000000000);
        BigInteger x = above.divide(g);
        BigInteger y = below.divide(g);
        return x.abs().compareTo(edge) > 0 || y.compareTo(edge) > 0 ? null : new BigInteger[] {x, y};
    }

    private static BigInteger[] whole(long v) {
        return new BigInteger[] {BigInteger.valueOf(v), BigInteger.ONE};
    }

    private static BigInteger[] hundred(int v) {
        return fraction(BigInteger.valueOf(v / 100), BigInteger.valueOf(v % 100));
    }

    private static BigInteger[] add(BigInteger[] x, BigInteger[] y, int sign) {
        return x == null || y == null ? null : fraction(x[0].multiply(y[1])
            .add(y[0].multiply(x[1]).multiply(BigInteger.valueOf(sign))), x[1].multiply(y[1]));
    }

    private static BigInteger[] mul(BigInteger[] x, BigInteger[] y) {
        return x == null || y == null ? null : fraction(x[0].multiply(y[0]), x[1].multiply(y[1]));
    }

    private static long tell(BigInteger[] x, int what) {
        BigInteger[] y = x == null ? null : fraction(x[0], x[1]);
        return y == null ? SPENT : y[what].longValueExact();
    }

    private BigInteger[] echoOf(int k) {
        BigInteger[] f = whole(0);
        BigInteger[] p = whole(0);
        BigInteger[] o = null;
        for (int w = 0; w <= k; w++) {
            BigInteger[] d = whole(w == 0 ? 1 : 0);
            BigInteger[] gap = add(d, f, -1);
            BigInteger[] part = mul(hundred(t), gap);
            f = add(f, part, 1);
            p = add(p, d, -1);
            BigInteger[] aim = mul(whole(m), f);
            BigInteger[] want = add(aim, p, -1);
            BigInteger[] share = mul(hundred(a), want);
            o = add(d, share, 1);
            p = add(p, o, 1);
            if (gap == null || part == null || f == null || aim == null || want == null || share == null || o == null
                || p == null) {
                return null;
            }
        }
        return o;
    }

    long echo(int k, int what) {
        return out(k, 0, 30) || out(what, 0, 1) ? NO : tell(echoOf(k), what);
    }

    private BigInteger[] below(int i) {
        BigInteger[] x = add(whole(1), hundred(t), -1);
        BigInteger[] y = add(whole(1), hundred(a), -1);
        return i == 0 ? whole(1) : i == 1 ? mul(whole(-1), add(x, y, 1)) : mul(x, y);
    }

    long pole(int which, int i, int what) {
        if (out(which, 0, 1) || out(i, 0, 2) || out(what, 0, 1)) {
            return NO;
        }
        if (which == 1) {
            return tell(below(i), what);
        }
        BigInteger[] sum = whole(0);
        for (int j = 0; j <= i; j++) {
            sum = add(sum, mul(echoOf(j), below(i - j)), 1);
        }
        return tell(sum, what);
    }

    long loud(int n, int what) {
        if (out(n, 1, 30) || out(what, 0, 1)) {
            return NO;
        }
        BigInteger[] sum = whole(0);
        for (int j = 0; j < n; j++) {
            BigInteger[] e = echoOf(j);
            sum = add(sum, mul(e, e), 1);
        }
        return tell(sum, what);
    }

    int steady(long c, int k) {
        if (out(k, 1, 4) || tooLong(c, 256, k + 1)) {
            return BAD;
        }
        List<BigInteger> row = new ArrayList<>();
        for (int i = 0; i <= k; i++) {
            long v = (c >> 8 * i & 255) - 100;
            if (out(v, -99, 99) || i == 0 && v == 0) {
                return BAD;
            }
            row.add(BigInteger.valueOf(v));
        }
        return isSteady(row) ? 1 : 0;
    }

    private static boolean isSteady(List<BigInteger> row) {
        int k = row.size() - 1;
        if (k == 0) {
            return true;
        }
        if (row.get(0).abs().compareTo(row.get(k).abs()) <= 0) {
            return false;
        }
        List<BigInteger> next = new ArrayList<>();
        for (int i = 0; i < k; i++) {
            next.add(row.get(0).multiply(row.get(i)).subtract(row.get(k).multiply(row.get(k - i))));
        }
        return isSteady(next);
    }

    int chances(int v) {
        if (out(v, 1, 99999)) {
            return BAD;
        }
        String digits = String.format("%05d", v);
        for (int d = 0; d < 5; d++) {
            weights[d] = digits.charAt(d) - '0';
        }
        return 0;
    }

    private long weight(int n, int x) {
        if (n == 0) {
            return x == 0 ? 1 : 0;
        }
        long sum = 0;
        for (int d = 0; d <= 4 && d <= x; d++) {
            sum += weights[d] * weight(n - 1, x - d);
        }
        return sum;
    }

    long chance(int n, int x) {
        return out(n, 1, 6) || x < 0 ? NO : x > 4 * n ? 0 : weight(n, x);
    }

    private static boolean noLevels(int leads, int costs) {
        return leads < 0 || costs < 0 || out(leads / 10, 1, 3) || out(leads % 10, 1, 3) || out(costs / 1000, 1, 9)
            || out(costs / 100 % 10, 1, 9) || out(costs % 100, 1, 99);
    }

    private long nearCost(int leads, int costs, int y) {
        int h = costs / 1000;
        int g = costs / 100 % 10;
        int b = costs % 100;
        int n = leads / 10 + 1;
        long sum = 0;
        for (int x = 0; x <= 4 * n; x++) {
            int level = Math.max(y, -30);
            sum += weight(n, x) * (h * (level - x) + (x > level ? (b + h + g) * (x - level) : 0));
            sum += weight(n, x) * (b + g) * (level - y);
        }
        return sum;
    }

    private long farCost(int leads, int costs, int y, int near) {
        int g = costs / 100 % 10;
        long all = 0;
        for (int x = 0; x <= 16; x++) {
            all += weight(leads / 10 + 1, x);
        }
        long sum = 0;
        for (int x = 0; x <= 4 * (leads % 10); x++) {
            sum += weight(leads % 10, x) * (g * (y - x) * all + nearCost(leads, costs, Math.min(near, y - x)));
        }
        return sum;
    }

    private int nearLevel(int leads, int costs) {
        int best = 0;
        for (int y = 30; y >= 0; y--) {
            best = nearCost(leads, costs, y) <= nearCost(leads, costs, best) ? y : best;
        }
        for (int y = 30; y >= 0; y--) {
            best = nearCost(leads, costs, y) <= nearCost(leads, costs, best) ? y : best;
        }
        return best;
    }

    int level(int which, int leads, int costs) {
        if (noLevels(leads, costs)) {
            return BAD;
        }
        if (out(which, 0, 1)) {
            return NONE;
        }
        int near = nearLevel(leads, costs);
        if (which == 0) {
            return near;
        }
        int best = 30;
        long least = farCost(leads, costs, 30, near);
        for (int y = 29; y >= 0; y--) {
            long here = farCost(leads, costs, y, near);
            if (here <= least) {
                least = here;
                best = y;
            }
        }
        return best;
    }

    long levelCost(int which, int leads, int costs, int y) {
        if (noLevels(leads, costs) || out(which, 0, 1) || out(y, -30, 30)) {
            return NO;
        }
        return which == 0 ? nearCost(leads, costs, y) : farCost(leads, costs, y, nearLevel(leads, costs));
    }

    long worst(int s, int what, int n, int lo, int hi) {
        if (noShop(s) || out(what, 0, 1)) {
            return NONE;
        }
        if (out(n, 1, 6) || out(lo, 0, 999) || out(hi, lo, 999)) {
            return BAD;
        }
        if (weeks + n > 400) {
            return STATE;
        }
        long most = -1;
        int best = 0;
        for (int row = 0; row < 1 << n; row++) {
            Model c = copy();
            long order = 0;
            for (Stage x : c.stages) {
                x.demand = 0;
            }
            for (int i = 0; i < n; i++) {
                c.stages.get(s).demand = (row >> n - 1 - i & 1) == 0 ? lo : hi;
                c.pass();
                order = Math.max(order, c.about(0, 10));
            }
            long cost = 0;
            for (Stage x : c.stages) {
                cost += x.cost;
            }
            long value = what == 0 ? cost : order;
            if (value > most) {
                most = value;
                best = row;
            }
        }
        worstRow = new int[n];
        for (int i = 0; i < n; i++) {
            worstRow[i] = (best >> n - 1 - i & 1) == 0 ? lo : hi;
        }
        return most;
    }

    int worstAt(int i) {
        return i < 0 || i >= worstRow.length ? NONE : worstRow[i];
    }

    private static boolean tooLong(long v, int base, int digits) {
        return v < 0 || BigInteger.valueOf(v).compareTo(BigInteger.valueOf(base).pow(digits)) >= 0;
    }

    private static int[] digits(long v, int k, int most) {
        if (tooLong(v, 16, k)) {
            return null;
        }
        int[] row = new int[k];
        for (int i = 0; i < k; i++) {
            row[i] = (int) (v >> 4 * i & 15);
            if (row[i] > most) {
                return null;
            }
        }
        return row;
    }

    int gets(int how, int s, long claims, int k, int i) {
        if (i < 0 || i >= k) {
            return NONE;
        }
        if (out(how, 0, 2) || out(s, 0, 40) || out(k, 2, 4) || digits(claims, k, 12) == null) {
            return BAD;
        }
        return split(how, s, digits(claims, k, 12))[i];
    }

    int calm(int how, int s, long wants, long claims, int k) {
        if (out(how, 0, 2) || out(s, 0, 40) || out(k, 2, 4) || digits(claims, k, 12) == null
            || digits(wants, k, 9) == null) {
            return BAD;
        }
        return isCalm(how, s, digits(wants, k, 9), digits(claims, k, 12)) ? 1 : 0;
    }

    private static boolean isCalm(int how, int s, int[] wants, int[] claims) {
        for (int i = 0; i < wants.length; i++) {
            int far = Math.abs(split(how, s, claims)[i] - wants[i]);
            int[] other = claims.clone();
            for (int c = 0; c <= 12; c++) {
                other[i] = c;
                if (Math.abs(split(how, s, other)[i] - wants[i]) < far) {
                    return false;
                }
            }
        }
        return true;
    }

    long calmest(int how, int s, long wants, int k) {
        if (out(how, 0, 2) || out(s, 0, 40) || out(k, 2, 3) || digits(wants, k, 9) == null) {
            return BAD;
        }
        int[] w = digits(wants, k, 9);
        for (int x = 0; x <= 12; x++) {
            for (int y = 0; y <= 12; y++) {
                for (int z = 0; z <= (k == 3 ? 12 : 0); z++) {
                    if (isCalm(how, s, w, k == 3 ? new int[] {x, y, z} : new int[] {x, y})) {
                        return x + 16 * y + 256 * z;
                    }
                }
            }
        }
        return -1;
    }

    int count(int what) {
        int shops = 0;
        for (Stage x : stages) {
            shops += x.kind == 3 ? 1 : 0;
        }
        int[] all = {stages.size(), rules.size(), weeks, allotment, tape.length(), shops};
        return out(what, 0, 5) ? NONE : all[what];
    }
}
