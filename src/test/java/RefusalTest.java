import java.util.function.Supplier;
import java.util.function.ToLongFunction;

/** Section 8: each REFUSAL of each promise, of several the first one told, and that it changes nothing. */
public final class RefusalTest {
    private static final int NONE = -1, BAD = -2, STATE = -3, FULL = -4, NOT_SUCH = -5;
    private static final long NO = Long.MIN_VALUE, SPENT = Long.MIN_VALUE + 1;
    private static final int LEAST = Integer.MIN_VALUE, MOST = Integer.MAX_VALUE;

    private final String name;
    private final Supplier<OrderEcho> make;

    private RefusalTest(String name, Supplier<OrderEcho> make) {
        this.name = name;
        this.make = make;
    }

    public static void main(String[] args) {
        looksSeeWhatChanges();
        new RefusalTest("empty", Twin::empty).withoutStages();
        new RefusalTest("bare", Twin::bare).withoutStages();
        new RefusalTest("young", Twin::young).withFiveStages();
        new RefusalTest("young", Twin::young).aheadOfWeeks();
        new RefusalTest("busy", Twin::busy).withFiveStages();
        new RefusalTest("busy", Twin::busy).afterWeeks();
        new RefusalTest("full", Twin::full).full();
        new RefusalTest("full", Twin::full).fullOfStages(FULL);
        new RefusalTest("full and busy", Twin::fullBusy).full();
        new RefusalTest("full and busy", Twin::fullBusy).fullOfStages(STATE);
        new RefusalTest("395 weeks", () -> Twin.at(395)).nearTheEnd();
        new RefusalTest("400 weeks", () -> Twin.at(400)).withFiveStages();
        new RefusalTest("400 weeks", () -> Twin.at(400)).afterWeeks();
        new RefusalTest("400 weeks", () -> Twin.at(400)).atTheEnd();
        Check.end("RefusalTest");
    }

    private void refused(String call, long due, ToLongFunction<OrderEcho> asked) {
        Twin.refused(name + ": " + call, make, due, asked);
    }

    /** Looks that would see nothing would find every refusal fine. */
    private static void looksSeeWhatChanges() {
        seen("stage", Twin::young, x -> x.stage(1, 0, 1, 0, 0));
        for (int what = 0; what <= 3; what++) {
            int which = what;
            seen("set " + what, Twin::busy, x -> x.set(4, which, 33));
        }
        seen("use", Twin::busy, x -> x.use(4, 1));
        seen("allot", Twin::busy, x -> x.allot(2));
        seen("demand", Twin::busy, x -> x.demand(4, 6));
        seen("week", Twin::busy, OrderEcho::week);
        seen("weeks", Twin::busy, x -> x.weeks(2, 1));
        seen("feed", Twin::busy, x -> x.feed('1', 1));
        seen("rule", Twin::busy, OrderEcho::rule);
        seen("straight t", Twin::busy, x -> x.straight(104, 102, 3));
        seen("straight a", Twin::busy, x -> x.straight(103, 103, 3));
        seen("straight m", Twin::busy, x -> x.straight(103, 102, 4));
        seen("chances", Twin::busy, x -> x.chances(12322));
        seen("worst", Twin::busy, x -> x.worst(4, 0, 4, 2, 30));
    }

    private static void seen(String call, Supplier<OrderEcho> make, ToLongFunction<OrderEcho> asked) {
        OrderEcho x = make.get();
        asked.applyAsLong(x);
        Check.holds(call + " shows", !java.util.Arrays.equals(Looks.at(x), Looks.at(make.get())));
    }

    private void withoutStages() {
        refused("stage, supplier -1", NONE, x -> x.stage(0, -1, 1, 0, 0));
        refused("stage, supplier 1", NONE, x -> x.stage(0, 1, 1, 0, 0));
        refused("stage, supplier and kind", NONE, x -> x.stage(3, 1, 0, 4, -1));
        refused("stage, kind 3", BAD, x -> x.stage(3, 0, 1, 0, 0));
        refused("stage, kind -1", BAD, x -> x.stage(-1, 0, 1, 0, 0));
        refused("stage, way 0", BAD, x -> x.stage(0, 0, 0, 0, 0));
        refused("stage, delay 4", BAD, x -> x.stage(0, 0, 1, 4, 0));
        refused("stage, stock 10000", BAD, x -> x.stage(0, 0, 1, 0, 10000));
        refused("set", NONE, x -> x.set(0, 0, 5));
        refused("use", NOT_SUCH, x -> x.use(0, -1));
        refused("demand", NONE, x -> x.demand(0, 5));
        refused("week", STATE, OrderEcho::week);
        refused("weeks", STATE, x -> x.weeks(20, 5));
        refused("weeks, BAD first", BAD, x -> x.weeks(21, 5));
        refused("worth", NO, x -> x.worth(0, 0));
        refused("worst", NONE, x -> x.worst(0, 0, 1, 0, 5));
        refused("worstAt", NONE, x -> x.worstAt(0));
        withNumbersAlone();
    }

    private void withFiveStages() {
        stagesRefused();
        settingsRefused();
        looksRefused();
        weeksRefused();
        worstRefused();
        swingsRefused();
        withNumbersAlone();
    }

    private void stagesRefused() {
        int[] none = {LEAST, -1, 5, 8, MOST};
        for (int supplier : none) {
            refused("stage, supplier " + supplier, NONE, x -> x.stage(2, supplier, 1, 0, 5));
            refused("stage, all wrong with " + supplier, NONE, x -> x.stage(0, supplier, 0, -1, -1));
        }
        int[] kinds = {LEAST, -1, 0, 4, MOST};
        for (int kind : kinds) {
            refused("stage, kind " + kind, BAD, x -> x.stage(kind, 0, 1, 0, 5));
        }
        refused("stage, way 0", BAD, x -> x.stage(2, 0, 0, 0, 5));
        refused("stage, way 7", BAD, x -> x.stage(2, 0, 7, 0, 5));
        refused("stage, delay -1", BAD, x -> x.stage(2, 0, 1, -1, 5));
        refused("stage, delay 4", BAD, x -> x.stage(2, 0, 1, 4, 5));
        refused("stage, stock -1", BAD, x -> x.stage(2, 0, 1, 0, -1));
        refused("stage, stock 10000", BAD, x -> x.stage(2, 0, 1, 0, 10000));
        refused("stage, at a shop", BAD, x -> x.stage(2, 3, 1, 0, 5));
        refused("stage, at the last shop", BAD, x -> x.stage(3, 4, 1, 0, 5));
    }

    private void settingsRefused() {
        int[] none = {LEAST, -1, 5, MOST};
        int[] out = {LEAST, -1, 10000, MOST};
        for (int what = 0; what <= 3; what++) {
            int which = what;
            for (int s : none) {
                refused("set of " + s, NONE, x -> x.set(s, which, 5));
                refused("set of " + s + ", BAD too", NONE, x -> x.set(s, which, -1));
            }
            for (int v : out) {
                refused("set " + what + " to " + v, BAD, x -> x.set(4, which, v));
            }
            int over = what == 0 ? 51 : what == 1 ? 10000 : 100;
            refused("set " + what + " to " + over, BAD, x -> x.set(4, which, over));
            refused("set " + what + " below", BAD, x -> x.set(4, which, which < 2 ? 0 : -1));
        }
        for (int s : none) {
            refused("use of " + s, NOT_SUCH, x -> x.use(s, 0));
            refused("use of " + s + ", none", NOT_SUCH, x -> x.use(s, -1));
        }
        refused("set what -1", NONE, x -> x.set(4, -1, 5));
        refused("set what 4", NONE, x -> x.set(4, 4, 5));
        refused("use -2", NOT_SUCH, x -> x.use(4, -2));
        refused("use of a rule too many", NOT_SUCH, x -> x.use(4, x.count(1)));
        refused("allot -1", BAD, x -> x.allot(-1));
        refused("allot 3", BAD, x -> x.allot(3));
    }

    private void looksRefused() {
        int[] none = {-1, 5};
        for (int s : none) {
            refused("about", NONE, x -> x.about(s, 0));
            refused("place", NO, x -> x.place(s));
            refused("slot", NONE, x -> x.slot(s, 1));
            refused("owed", NONE, x -> x.owed(s, 3));
            refused("owed to", NONE, x -> x.owed(2, s));
            refused("cost", NO, x -> x.cost(s));
            refused("kept", NO, x -> x.kept(s));
            refused("worth", NO, x -> x.worth(0, s));
        }
        refused("about -1", NONE, x -> x.about(4, -1));
        refused("about 13", NONE, x -> x.about(4, 13));
        refused("slot 0", NONE, x -> x.slot(4, 0));
        refused("slot 2", NONE, x -> x.slot(4, 2));
        refused("owed to itself", NONE, x -> x.owed(2, 2));
        refused("worth -1", NO, x -> x.worth(-1, 4));
        refused("worth of a rule too many", NO, x -> x.worth(x.count(1), 4));
    }

    private void weeksRefused() {
        int[] none = {LEAST, -1, 0, 2, 5, MOST};
        for (int s : none) {
            refused("demand of " + s, NONE, x -> x.demand(s, 5));
            refused("demand of " + s + ", BAD too", NONE, x -> x.demand(s, 1000));
        }
        int[] out = {LEAST, -1, 1000, MOST};
        for (int d : out) {
            refused("demand " + d, BAD, x -> x.demand(4, d));
            refused("weeks of " + d, BAD, x -> x.weeks(1, d));
        }
        int[] many = {LEAST, -1, 0, 21, MOST};
        for (int n : many) {
            refused("weeks " + n, BAD, x -> x.weeks(n, 5));
        }
    }

    private void worstRefused() {
        int[] none = {LEAST, -1, 0, 2, 5, MOST};
        for (int s : none) {
            refused("worst of " + s, NONE, x -> x.worst(s, 0, 1, 0, 5));
        }
        refused("worst what -1", NONE, x -> x.worst(4, -1, 1, 0, 5));
        refused("worst what 2", NONE, x -> x.worst(4, 2, 1, 0, 5));
        refused("worst what 2, BAD too", NONE, x -> x.worst(4, 2, 7, 5, 0));
        refused("worst n 0", BAD, x -> x.worst(4, 0, 0, 0, 5));
        refused("worst n 7", BAD, x -> x.worst(4, 0, 7, 0, 5));
        refused("worst lo -1", BAD, x -> x.worst(4, 0, 1, -1, 5));
        refused("worst hi 1000", BAD, x -> x.worst(4, 0, 1, 0, 1000));
        refused("worst lo above hi", BAD, x -> x.worst(4, 0, 1, 6, 5));
        refused("worstAt -1", NONE, x -> x.worstAt(-1));
        refused("worstAt 6", NONE, x -> x.worstAt(6));
    }

    private void swingsRefused() {
        refused("swing of none", NO, x -> x.swing(5, 0, 2));
        refused("swing what 2", NO, x -> x.swing(4, 2, 2));
        refused("swing 1", NO, x -> x.swing(4, 0, 1));
        refused("swing 41", NO, x -> x.swing(4, 0, 41));
        refused("gain of none", NO, x -> x.gain(5, 2, 0));
        refused("gain 1", NO, x -> x.gain(4, 1, 0));
        refused("gain 41", NO, x -> x.gain(4, 41, 0));
        refused("gain what 2", NO, x -> x.gain(4, 2, 2));
    }

    /** What is refused whatever stages there are. */
    private void withNumbersAlone() {
        tapeRefused();
        straightRefused();
        levelsRefused();
        claimsRefused();
        refused("allot 3", BAD, x -> x.allot(3));
        refused("count -1", NONE, x -> x.count(-1));
        refused("count 6", NONE, x -> x.count(6));
    }

    private void tapeRefused() {
        int[] many = {LEAST, -1, 0, 9, MOST};
        for (int n : many) {
            refused("feed " + n, BAD, x -> x.feed(0x31, n));
        }
    }

    private void straightRefused() {
        int[] out = {LEAST, -1, 0, 100, 121, 301, MOST};
        for (int v : out) {
            refused("straight t " + v, BAD, x -> x.straight(v, 101, 1));
            refused("straight a " + v, BAD, x -> x.straight(101, v, 1));
        }
        refused("straight m 0", BAD, x -> x.straight(101, 101, 0));
        refused("straight m 9", BAD, x -> x.straight(101, 101, 9));
        refused("echo -1", NO, x -> x.echo(-1, 0));
        refused("echo 31", NO, x -> x.echo(31, 0));
        refused("echo what 2", NO, x -> x.echo(0, 2));
        refused("pole which 2", NO, x -> x.pole(2, 0, 0));
        refused("pole i 3", NO, x -> x.pole(0, 3, 0));
        refused("pole what -1", NO, x -> x.pole(0, 0, -1));
        refused("loud 0", NO, x -> x.loud(0, 0));
        refused("loud 31", NO, x -> x.loud(31, 0));
        refused("steady k 0", BAD, x -> x.steady(0x6465, 0));
        refused("steady k 5", BAD, x -> x.steady(0x646464646465L, 5));
        refused("steady c0 0", BAD, x -> x.steady(0x6564, 1));
        refused("steady -100", BAD, x -> x.steady(0x0065, 1));
        refused("steady, too many", BAD, x -> x.steady(0x646465, 1));
    }

    private void levelsRefused() {
        int[] out = {LEAST, -1, 0, 100000, MOST};
        for (int weights : out) {
            refused("chances " + weights, BAD, x -> x.chances(weights));
        }
        refused("chance 0", NO, x -> x.chance(0, 0));
        refused("chance 7", NO, x -> x.chance(7, 0));
        refused("chance of -1", NO, x -> x.chance(1, -1));
        refused("level, leads", BAD, x -> x.level(0, 10, 1101));
        refused("level, costs", BAD, x -> x.level(0, 11, 1100));
        refused("level, which", NONE, x -> x.level(2, 11, 1101));
        refused("level, leads and which", BAD, x -> x.level(2, 10, 1101));
        refused("levelCost, which", NO, x -> x.levelCost(2, 11, 1101, 0));
        refused("levelCost, leads", NO, x -> x.levelCost(0, 10, 1101, 0));
        refused("levelCost, costs", NO, x -> x.levelCost(0, 11, 1100, 0));
        refused("levelCost, y 31", NO, x -> x.levelCost(0, 11, 1101, 31));
        refused("levelCost, y -31", NO, x -> x.levelCost(0, 11, 1101, -31));
    }

    private void claimsRefused() {
        refused("gets i -1", NONE, x -> x.gets(0, 5, 0x11, 2, -1));
        refused("gets i 2", NONE, x -> x.gets(3, 41, 0xff, 2, 2));
        refused("gets how 3", BAD, x -> x.gets(3, 5, 0x11, 2, 0));
        refused("gets s 41", BAD, x -> x.gets(0, 41, 0x11, 2, 0));
        refused("gets k 5", BAD, x -> x.gets(0, 5, 0x11, 5, 0));
        refused("gets, a claim of 13", BAD, x -> x.gets(0, 5, 0xd1, 2, 0));
        refused("gets, too many", BAD, x -> x.gets(0, 5, 0x111, 2, 0));
        refused("calm how 3", BAD, x -> x.calm(3, 5, 0x11, 0x11, 2));
        refused("calm, a want of 10", BAD, x -> x.calm(0, 5, 0xa1, 0x11, 2));
        refused("calm, a claim of 13", BAD, x -> x.calm(0, 5, 0x11, 0xd1, 2));
        refused("calm k 1", BAD, x -> x.calm(0, 5, 0x1, 0x1, 1));
        refused("calmest k 4", BAD, x -> x.calmest(0, 5, 0x1111, 4));
        refused("calmest, a want of 10", BAD, x -> x.calmest(0, 5, 0xa1, 2));
        refused("calmest s -1", BAD, x -> x.calmest(0, -1, 0x11, 2));
    }

    private void aheadOfWeeks() {
        refused("swing", NO, x -> x.swing(4, 0, 2));
        refused("gain", NO, x -> x.gain(4, 2, 0));
        refused("worstAt", NONE, x -> x.worstAt(0));
    }

    private void afterWeeks() {
        refused("stage", STATE, x -> x.stage(2, 0, 1, 0, 5));
        refused("stage, a shop", STATE, x -> x.stage(3, 2, 6, 3, 9999));
        refused("stage, BAD first", BAD, x -> x.stage(2, 3, 1, 0, 5));
        refused("stage, NONE first", NONE, x -> x.stage(2, 5, 1, 0, 5));
        refused("worstAt 3", NONE, x -> x.worstAt(3));
    }

    private void full() {
        refused("rule", FULL, OrderEcho::rule);
        for (int n = 1; n <= 8; n++) {
            int bytes = n;
            refused("feed " + n, FULL, x -> x.feed(0x31, bytes));
        }
        refused("feed, BAD first", BAD, x -> x.feed(0x31, 9));
        refused("use 12", NOT_SUCH, x -> x.use(0, 12));
        refused("worth 12", NO, x -> x.worth(12, 0));
        refused("set of 8", NONE, x -> x.set(8, 0, 5));
        refused("demand of 8", NONE, x -> x.demand(8, 5));
        refused("about 8", NONE, x -> x.about(8, 0));
    }

    private void fullOfStages(int due) {
        refused("stage", due, x -> x.stage(2, 0, 1, 0, 5));
        refused("stage, a shop", due, x -> x.stage(3, 5, 1, 0, 5));
        refused("stage, BAD first", BAD, x -> x.stage(2, 0, 7, 0, 5));
        refused("stage at a shop", BAD, x -> x.stage(2, 7, 1, 0, 5));
        refused("stage, NONE first", NONE, x -> x.stage(2, 8, 1, 0, 5));
    }

    private void nearTheEnd() {
        for (int n = 6; n <= 20; n++) {
            int many = n;
            refused("weeks " + n, FULL, x -> x.weeks(many, 5));
        }
        refused("weeks, BAD first", BAD, x -> x.weeks(21, 5));
        refused("weeks, BAD first", BAD, x -> x.weeks(6, 1000));
        refused("worst", STATE, x -> x.worst(4, 0, 6, 0, 5));
        refused("worst, BAD first", BAD, x -> x.worst(4, 0, 6, 5, 0));
        refused("worst, NONE first", NONE, x -> x.worst(2, 0, 6, 0, 5));
    }

    private void atTheEnd() {
        refused("week", FULL, OrderEcho::week);
        refused("weeks 1", FULL, x -> x.weeks(1, 0));
        refused("weeks 20", FULL, x -> x.weeks(20, 999));
        refused("worst 1", STATE, x -> x.worst(4, 0, 1, 0, 5));
        refused("worst 6", STATE, x -> x.worst(3, 1, 6, 0, 5));
        refused("a spent fraction", SPENT, x -> x.echo(30, 0));
    }
}
