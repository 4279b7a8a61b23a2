import java.util.function.Supplier;
import java.util.function.ToLongFunction;

/** Objects made alike: one of them is asked something that must change nothing, and both must look alike then. */
final class Twin {
    private Twin() {
    }

    /** "They change nothing." */
    static void refused(String what, Supplier<OrderEcho> make, long due, ToLongFunction<OrderEcho> call) {
        OrderEcho asked = make.get();
        Check.due(what, call.applyAsLong(asked), due);
        alike(what + " changes nothing", asked, make.get(), 0);
    }

    /** "All is as before then.": but for what worstAt() tells. */
    static void asBefore(String what, Supplier<OrderEcho> make, long due, ToLongFunction<OrderEcho> call) {
        OrderEcho asked = make.get();
        Check.due(what, call.applyAsLong(asked), due);
        alike(what + ": all is as before", asked, make.get(), Looks.AT_WORST);
    }

    private static void alike(String what, OrderEcho asked, OrderEcho other, int from) {
        long[] due = Looks.at(other);
        long[] got = Looks.at(asked);
        Check.due(what + ": looks", got.length, due.length);
        for (int i = from; i < due.length && i < got.length; i++) {
            Check.due(what + ": look " + i, got[i], due[i]);
        }
    }

    static OrderEcho empty() {
        return new OrderEcho();
    }

    /** Nothing told of stages, but all the rest: a rule, a tape, an allotment, a straight rule, weights. */
    static OrderEcho bare() {
        OrderEcho x = new OrderEcho();
        Check.rule(x, "7");
        settle(x);
        return x;
    }

    /** What does not belong to stages, each not as at first; the tape waits for an atom. */
    private static void settle(OrderEcho x) {
        x.allot(1);
        x.straight(103, 102, 3);
        x.chances(12321);
        x.feed('7' << 8 | '*', 2);
    }

    /** Five stages with rules, settings and demands told; no week went by. */
    static OrderEcho young() {
        OrderEcho x = Check.fiveStages();
        Check.rule(x, "max(0,30-place)");
        Check.rule(x, "mean+max(0,20-place)/2");
        for (int s = 0; s < 5; s++) {
            x.use(s, s % 2);
            x.set(s, 2, s + 1);
            x.set(s, 3, 9 - s);
        }
        x.set(2, 0, 5);
        x.set(1, 1, 60);
        settle(x);
        x.demand(3, 17);
        x.demand(4, 5);
        return x;
    }

    /** The same net a few weeks on, with a worst row. */
    static OrderEcho busy() {
        OrderEcho x = young();
        x.weeks(3, 4);
        x.demand(3, 11);
        x.week();
        x.worst(4, 0, 3, 2, 30);
        x.demand(3, 17);
        x.demand(4, 5);
        return x;
    }

    /** 8 stages, 12 rules and 120 bytes; no week went by. */
    static OrderEcho full() {
        OrderEcho x = Check.fiveStages();
        x.stage(2, 0, 6, 3, 9);
        x.stage(3, 5, 3, 2, 8);
        x.stage(3, 0, 1, 0, 7);
        for (int r = 0; r < 12; r++) {
            Check.rule(x, r + "+seen");
        }
        for (int s = 0; s < 8; s++) {
            x.use(s, 11 - s);
        }
        for (int i = 0; i < 15; i++) {
            x.feed(0x312B_312B_312B_312BL, 8);
        }
        x.demand(7, 6);
        return x;
    }

    static OrderEcho fullBusy() {
        OrderEcho x = full();
        x.weeks(2, 3);
        x.demand(7, 6);
        return x;
    }

    /** The busy net when that many weeks (4 or more) went by. */
    static OrderEcho at(int weeks) {
        OrderEcho x = busy();
        for (int left = weeks - x.count(2); left > 0; left -= 20) {
            x.weeks(Math.min(20, left), 6);
        }
        x.demand(3, 17);
        x.demand(4, 5);
        return x;
    }
}
