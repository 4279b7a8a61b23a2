import java.util.Random;

/** Runs of calls by chance, each answer compared with that of the plain model. */
public final class ModelTest {
    private static final String[] PIECES = {"stock", "owed", "way", "seen", "mean", "week", "place", "1", "23", "456",
        "7890", "0", "+", "-", "*", "/", "(", ")", ",", "min(", "max(", "mi", "ma", "we", "12345", " ", "x"};

    /** Nothing is promised of later calls; the last ones look at all stages. */
    private static final int MOST_CALLS = 512, BEFORE_LOOKS = 320;

    private final Random random;
    private final OrderEcho x = new OrderEcho();
    private final Model y = new Model();
    private int at;
    private int used;

    private ModelTest(int seed) {
        random = new Random(seed);
    }

    public static void main(String[] args) {
        int runs = args.length > 0 ? Integer.parseInt(args[0]) : 3000;
        for (int seed = 0; seed < runs && Check.allFine(); seed++) {
            new ModelTest(seed).run(seed);
        }
        Check.end("ModelTest");
    }

    private void run(int seed) {
        int kind = seed % 5;
        if (kind != 4) {
            build();
        }
        if (kind == 2) {
            hurry();
        }
        int calls = 60 + random.nextInt(240);
        for (at = 0; at < calls && used < BEFORE_LOOKS; at++) {
            int group = kind == 4 ? random.nextInt(12) : kind == 3 ? 6 + random.nextInt(6) : random.nextInt(8);
            call(group, seed);
        }
        int first = random.nextInt(10);
        for (int i = 0; i < 10 && used < MOST_CALLS; i++) {
            look((first + i) % 10 - 1, seed);
        }
    }

    /** To the last weeks, or a good part of the way. */
    private void hurry() {
        int turns = random.nextBoolean() ? 19 : random.nextInt(19);
        for (int i = 0; i < turns; i++) {
            int d = random.nextInt(random.nextInt(3) == 0 ? 1000 : 20);
            same("weeks", -1, x.weeks(20, d), y.weeks(20, d));
        }
    }

    private int some(int lo, int hi) {
        if (random.nextInt(40) == 0) {
            return random.nextBoolean() ? lo - 1 : hi + 1;
        }
        if (random.nextInt(200) == 0) {
            return random.nextInt();
        }
        return lo + random.nextInt(hi - lo + 1);
    }

    private void same(String call, int seed, long got, long due) {
        used++;
        if (used > MOST_CALLS) {
            return;
        }
        Check.due("seed " + seed + " at " + at + ": " + call, got, due);
    }

    private void build() {
        int n = 1 + random.nextInt(8);
        for (int i = 0; i < n; i++) {
            int kind = i == 0 ? 0 : 1 + random.nextInt(3);
            stage(0, kind, i == 0 ? 0 : random.nextInt(i));
        }
        int rules = random.nextInt(7);
        for (int i = 0; i < rules; i++) {
            rule(-1, sum(2));
        }
        for (int i = 0; i < n; i++) {
            int rule = random.nextInt(8) - 1;
            same("use", -1, x.use(i, rule), y.use(i, rule));
        }
    }

    private void stage(int seed, int kind, int supplier) {
        int way = some(1, 6);
        int delay = some(0, 3);
        int stock = some(0, random.nextInt(4) == 0 ? 9999 : 60);
        same("stage", seed, x.stage(kind, supplier, way, delay, stock), y.stage(kind, supplier, way, delay, stock));
    }

    private String sum(int deep) {
        StringBuilder text = new StringBuilder(atom(deep));
        for (int i = random.nextInt(3); i > 0; i--) {
            text.append("+-*/".charAt(random.nextInt(4))).append(atom(deep));
        }
        return text.toString();
    }

    private String atom(int deep) {
        int kind = random.nextInt(deep > 0 ? 6 : 3);
        if (kind == 0) {
            return "" + random.nextInt(random.nextInt(3) == 0 ? 10000 : 20);
        }
        if (kind < 3) {
            return Model.FIELDS[random.nextInt(7)];
        }
        String in = sum(deep - 1);
        return kind == 3 ? "(" + in + ")" : (kind == 4 ? "min(" : "max(") + in + "," + sum(deep - 1) + ")";
    }

    private void rule(int seed, String text) {
        int i = 0;
        while (i < text.length()) {
            int n = Math.min(text.length() - i, 1 + random.nextInt(8));
            long w = random.nextInt(3);
            for (int j = 0; j < n; j++) {
                w = w << 8 | text.charAt(i + j);
            }
            same("feed", seed, x.feed(w, n), y.feed(w, n));
            i += n;
        }
        same("rule of " + y.tape, seed, x.rule(), y.rule());
    }

    private String rubbish() {
        StringBuilder text = new StringBuilder(sum(random.nextInt(4)));
        int turns = random.nextInt(3);
        for (int i = 0; i < turns; i++) {
            String piece = PIECES[random.nextInt(PIECES.length)];
            int place = random.nextInt(text.length() + 1);
            if (random.nextBoolean()) {
                text.insert(place, piece);
            } else {
                text.setLength(place);
                text.append(piece);
            }
        }
        return text.toString();
    }

    private void call(int group, int seed) {
        switch (group) {
            case 0: net(seed); break;
            case 1: case 2: case 3: weeks(seed); break;
            case 4: look(some(0, 7), seed); break;
            case 5: rules(seed); break;
            case 6: swings(seed); break;
            case 7: worst(seed); break;
            case 8: lines(seed); break;
            case 9: levels(seed); break;
            default: claims(seed); break;
        }
    }

    private void net(int seed) {
        int s = some(0, 7);
        switch (random.nextInt(5)) {
            case 0: stage(seed, some(0, 3), some(0, 7)); break;
            case 1:
                int what = some(0, 3);
                int v = what == 0 ? some(1, 50) : what == 1 ? some(1, 9999) : some(0, 99);
                same("set", seed, x.set(s, what, v), y.set(s, what, v));
                break;
            case 2:
                int rule = some(-1, 11);
                same("use", seed, x.use(s, rule), y.use(s, rule));
                break;
            case 3:
                int how = some(0, 2);
                same("allot", seed, x.allot(how), y.allot(how));
                break;
            default:
                int c = some(0, 6);
                same("count", seed, x.count(c), y.count(c));
        }
    }

    private void weeks(int seed) {
        int s = some(0, 7);
        int d = random.nextInt(3) == 0 ? some(0, 999) : some(0, 30);
        switch (random.nextInt(4)) {
            case 0: case 1: same("demand", seed, x.demand(s, d), y.demand(s, d)); break;
            case 2: same("week", seed, x.week(), y.week()); break;
            default:
                int n = some(1, random.nextInt(3) == 0 ? 20 : 4);
                same("weeks", seed, x.weeks(n, d), y.weeks(n, d));
        }
    }

    private void look(int s, int seed) {
        for (int what = -1; what <= 13; what++) {
            same("about(" + s + "," + what + ")", seed, x.about(s, what), y.about(s, what));
        }
        same("place", seed, x.place(s), y.place(s));
        same("cost", seed, x.cost(s), y.cost(s));
        for (int i = 0; i <= 7; i++) {
            same("slot", seed, x.slot(s, i), y.slot(s, i));
            same("owed", seed, x.owed(s, i), y.owed(s, i));
        }
        for (int what = -1; what <= 5; what++) {
            same("kept", seed, x.kept(what), y.kept(what));
        }
        for (int what = -1; what <= 6; what++) {
            same("count", seed, x.count(what), y.count(what));
        }
    }

    private void rules(int seed) {
        int r = some(0, 11);
        int s = some(0, 7);
        switch (random.nextInt(3)) {
            case 0: rule(seed, random.nextInt(4) == 0 ? sum(3) : rubbish()); break;
            case 1:
                long w = random.nextLong();
                int n = some(1, 8);
                same("feed", seed, x.feed(w, n), y.feed(w, n));
                break;
            default: same("worth", seed, x.worth(r, s), y.worth(r, s));
        }
    }

    private void swings(int seed) {
        int s = some(0, 7);
        int what = some(0, 1);
        int n = random.nextBoolean() ? some(2, 40) : some(2, 6);
        same("swing", seed, x.swing(s, what, n), y.swing(s, what, n));
        same("gain", seed, x.gain(s, n, what), y.gain(s, n, what));
    }

    private void worst(int seed) {
        int s = some(0, 7);
        int what = some(0, 1);
        int n = some(1, random.nextInt(4) == 0 ? 6 : 3);
        int lo = some(0, 20);
        int hi = random.nextInt(9) == 0 ? lo - 1 + random.nextInt(3) : some(20, 60);
        same("worst", seed, x.worst(s, what, n, lo, hi), y.worst(s, what, n, lo, hi));
        for (int i = -1; i <= 6; i++) {
            same("worstAt", seed, x.worstAt(i), y.worstAt(i));
        }
    }

    private void lines(int seed) {
        if (random.nextInt(3) == 0) {
            int t = some(0, 40) * 100 + some(1, 20);
            int a = random.nextBoolean() ? some(0, 2) * 100 + some(1, 2) : some(0, 40) * 100 + some(1, 20);
            int m = some(1, 8);
            same("straight", seed, x.straight(t, a, m), y.straight(t, a, m));
        }
        int what = some(0, 1);
        int k = random.nextBoolean() ? some(0, 8) : some(0, 30);
        same("echo", seed, x.echo(k, what), y.echo(k, what));
        same("loud", seed, x.loud(k, what), y.loud(k, what));
        int which = some(0, 1);
        int i = some(0, 2);
        same("pole", seed, x.pole(which, i, what), y.pole(which, i, what));
        int wide = random.nextBoolean() ? 100 : 4;
        int degree = some(1, 4);
        long c = 0;
        for (int j = 0; j < 5; j++) {
            c = c << 8 | (100 - wide + random.nextInt(2 * wide + 1));
        }
        c = cut(c, 8, degree + 1);
        same("steady", seed, x.steady(c, degree), y.steady(c, degree));
    }

    /** As many digits as are told; now and then one bit more, anywhere above them. */
    private long cut(long v, int bits, int digits) {
        int end = Math.max(0, Math.min(63, bits * digits));
        long told = v & (1L << end) - 1;
        return random.nextInt(8) == 0 ? told | 1L << end + random.nextInt(64 - end) : told;
    }

    private void levels(int seed) {
        if (random.nextInt(3) == 0) {
            int weights = random.nextInt(3) == 0 ? random.nextInt(100) : some(0, 99999);
            same("chances", seed, x.chances(weights), y.chances(weights));
        }
        int n = some(1, 6);
        int sum = some(0, 24);
        same("chance", seed, x.chance(n, sum), y.chance(n, sum));
        int which = some(0, 1);
        int leads = some(1, 3) * 10 + some(1, 3);
        int costs = some(1, 9) * 1000 + some(1, 9) * 100 + some(1, 99);
        int level = some(-30, 30);
        same("levelCost", seed, x.levelCost(which, leads, costs, level), y.levelCost(which, leads, costs, level));
        if (random.nextInt(20) == 0) {
            same("level", seed, x.level(which, leads, costs), y.level(which, leads, costs));
        }
    }

    private void claims(int seed) {
        int how = some(0, 2);
        int s = some(0, 40);
        int k = some(2, 4);
        int i = some(0, 3);
        long claims = 0;
        long wants = 0;
        for (int j = 0; j < 4; j++) {
            claims = claims << 4 | some(0, 12) & 15;
            wants = wants << 4 | some(0, 9) & 15;
        }
        claims = cut(claims, 4, k);
        wants = cut(wants, 4, k);
        same("gets", seed, x.gets(how, s, claims, k, i), y.gets(how, s, claims, k, i));
        same("calm", seed, x.calm(how, s, wants, claims, k), y.calm(how, s, wants, claims, k));
        if (random.nextInt(40) == 0) {
            same("calmest", seed, x.calmest(how, s, wants, k), y.calmest(how, s, wants, k));
        }
    }
}
