import java.util.Arrays;

/** What the calls of an object show of it, in some 400 calls: the object isn't to be used after that. */
final class Looks {
    /** The first looks, at the worst row. */
    static final int AT_WORST = 6;

    private final OrderEcho x;
    private final int stages;
    private final long[] row = new long[600];
    private int size;

    private Looks(OrderEcho x) {
        this.x = x;
        stages = x.count(0);
    }

    static long[] at(OrderEcho x) {
        Looks looks = new Looks(x);
        looks.worst();
        looks.whole();
        looks.eachStage();
        looks.eachRule();
        looks.told();
        looks.tape();
        looks.later();
        return Arrays.copyOf(looks.row, looks.size);
    }

    private void add(long answer) {
        row[size] = answer;
        size++;
    }

    private void worst() {
        for (int i = 0; i < AT_WORST; i++) {
            add(x.worstAt(i));
        }
    }

    private void whole() {
        for (int what = 0; what <= 5; what++) {
            add(x.count(what));
        }
        for (int what = 0; what <= 4; what++) {
            add(x.kept(what));
            add(x.chance(1, what));
        }
        for (int k = 0; k <= 2; k++) {
            add(x.echo(k, 0));
            add(x.echo(k, 1));
            add(x.pole(1, k, 0));
        }
    }

    private void eachStage() {
        for (int s = 0; s < stages; s++) {
            for (int what = 0; what <= 12; what++) {
                add(x.about(s, what));
            }
            int way = x.about(s, 2);
            for (int i = 1; i <= way; i++) {
                add(x.slot(s, i));
            }
            add(x.owed(s, s));
            add(x.owed(x.about(s, 1), s));
            add(x.place(s));
            add(x.cost(s));
            add(x.swing(s, 0, 2));
            add(x.swing(s, 1, 40));
            add(x.gain(s, 3, 0));
        }
    }

    private void eachRule() {
        int rules = x.count(1);
        for (int r = 0; r < rules; r++) {
            add(x.worth(r, stages - 1));
        }
    }

    /** HOLD, LACK and DEMANDS are told by the calls that change them alone. */
    private void told() {
        for (int s = 0; s < stages; s++) {
            int hold = x.set(s, 2, 0);
            int lack = x.set(s, 3, 0);
            int demand = x.demand(s, 0);
            add(hold);
            add(lack);
            add(demand);
            x.set(s, 2, hold);
            x.set(s, 3, lack);
            x.demand(s, demand);
        }
    }

    /** The bytes of the tape show in what comes of them with a 3 behind. */
    private void tape() {
        add(x.feed('3', 1));
        int rule = x.rule();
        add(rule);
        add(x.worth(rule, 0));
        add(x.count(4));
    }

    private void later() {
        add(x.week());
        for (int s = 0; s < stages; s++) {
            add(x.about(s, 6));
            add(x.about(s, 7));
            add(x.about(s, 9));
            add(x.about(s, 10));
            add(x.cost(s));
        }
    }
}
