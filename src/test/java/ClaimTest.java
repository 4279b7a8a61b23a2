/** Promises 29 to 34, and section 7: worst demands, claims, counts. */
public final class ClaimTest {
    public static void main(String[] args) {
        worstRefusals();
        worstChangesNothing();
        worstRows();
        worstOfSeveral();
        gets();
        claimRefusals();
        tooManyDigits();
        calm();
        counts();
        Check.end("ClaimTest");
    }

    private static OrderEcho busy() {
        OrderEcho x = Check.fiveStages();
        Check.rule(x, "max(0,30-place)");
        Check.rule(x, "mean+max(0,20-place)/2");
        for (int s = 0; s < 5; s++) {
            x.use(s, s % 2);
            x.set(s, 2, s + 1);
            x.set(s, 3, 9 - s);
        }
        x.set(2, 0, 5);
        x.allot(1);
        x.weeks(3, 4);
        x.demand(3, 11);
        x.week();
        return x;
    }

    private static void worstRefusals() {
        OrderEcho x = busy();
        Check.due("a row that is kept", x.worst(4, 0, 2, 1, 1) > 0 ? 1 : 0, 1);
        Check.due("no shop", x.worst(2, 0, 7, 0, 0), -1);
        Check.due("none", x.worst(5, 0, 1, 0, 0), -1);
        Check.due("none -1", x.worst(-1, 0, 1, 0, 0), -1);
        Check.due("what 2", x.worst(3, 2, 7, 0, 0), -1);
        Check.due("what -1", x.worst(3, -1, 1, 0, 0), -1);
        Check.due("n 0", x.worst(3, 0, 0, 0, 0), -2);
        Check.due("n 7", x.worst(3, 0, 7, 0, 0), -2);
        Check.due("lo -1", x.worst(3, 0, 1, -1, 0), -2);
        Check.due("hi 1000", x.worst(3, 0, 1, 0, 1000), -2);
        Check.due("lo 1000", x.worst(3, 0, 1, 1000, 1000), -2);
        Check.due("lo above hi", x.worst(3, 0, 1, 3, 2), -2);
        Check.due("the row stays", x.worstAt(1), 1);
        Check.due("no week 2", x.worstAt(2), -1);
        Check.due("no week -1", x.worstAt(-1), -1);
        for (int i = 0; i < 19; i++) {
            x.weeks(20, 3);
        }
        x.weeks(12, 3);
        Check.due("weeks", x.count(2), 396);
        Check.due("more than 400", x.worst(3, 0, 5, 0, 1), -3);
        Check.due("bad ahead of state", x.worst(3, 0, 5, 1, 0), -2);
        Check.due("just 400", x.worst(3, 1, 4, 0, 1) >= 0 ? 1 : 0, 1);
        Check.due("its row", x.worstAt(3) >= 0 ? 1 : 0, 1);
        Check.due("of a new object", new OrderEcho().worstAt(0), -1);
    }

    private static long trace(OrderEcho x) {
        long sum = x.count(2);
        for (int s = 0; s < 5; s++) {
            for (int what = 0; what <= 12; what++) {
                sum = sum * 31 + x.about(s, what);
            }
            sum = sum * 31 + x.place(s);
            sum = sum * 31 + x.cost(s);
            sum = sum * 31 + x.swing(s, 0, 4);
            sum = sum * 31 + x.swing(s, 1, 4);
            sum = sum * 31 + x.slot(s, 1);
        }
        for (int what = 0; what <= 4; what++) {
            sum = sum * 31 + x.kept(what);
        }
        return sum;
    }

    private static void worstChangesNothing() {
        OrderEcho x = busy();
        x.demand(3, 17);
        long before = trace(x);
        x.worst(3, 0, 6, 0, 40);
        x.worst(4, 1, 5, 3, 4);
        Check.due("all is as before", trace(x), before);
        Check.due("what was told, too", x.demand(3, 17), 17);
        OrderEcho y = busy();
        y.demand(3, 17);
        x.week();
        y.week();
        Check.due("and goes on so", trace(x), trace(y));
    }

    private static long end(int s, int what, int n, int row, int lo, int hi) {
        OrderEcho x = busy();
        long most = 0;
        for (int i = 0; i < n; i++) {
            x.demand(s, (row >> (n - 1 - i) & 1) == 1 ? hi : lo);
            x.week();
            most = Math.max(most, x.about(0, 10));
        }
        long cost = 0;
        for (int i = 0; i < 5; i++) {
            cost += x.cost(i);
        }
        return what == 0 ? cost : most;
    }

    private static void worstRows() {
        int[][] spans = {{0, 40}, {3, 9}, {0, 2}, {5, 5}};
        for (int n = 1; n <= 6; n++) {
            for (int[] span : spans) {
                for (int what = 0; what <= 1; what++) {
                    compareWorst(3 + n % 2, what, n, span[0], span[1]);
                }
            }
        }
    }

    private static void compareWorst(int s, int what, int n, int lo, int hi) {
        long most = -1;
        int best = 0;
        for (int row = 0; row < 1 << n; row++) {
            long value = end(s, what, n, row, lo, hi);
            if (value > most) {
                most = value;
                best = row;
            }
        }
        OrderEcho x = busy();
        // What was told for this week and other shops isn't looked at.
        x.demand(3, 99);
        x.demand(4, 99);
        x.worst(7 - s, 1 - what, 3, 50, 60);
        String call = "worst(" + s + "," + what + "," + n + "," + lo + "," + hi + ")";
        Check.due(call, x.worst(s, what, n, lo, hi), most);
        for (int i = 0; i < n; i++) {
            Check.due(call + " at " + i, x.worstAt(i), (best >> (n - 1 - i) & 1) == 1 ? hi : lo);
        }
        Check.due(call + " has no more", x.worstAt(n), -1);
    }

    private static void worstOfSeveral() {
        OrderEcho x = new OrderEcho();
        x.stage(0, 0, 1, 0, 0);
        x.stage(3, 0, 1, 0, 0);
        Check.due("nothing is ordered", x.worst(1, 1, 3, 2, 5), 0);
        for (int i = 0; i < 3; i++) {
            Check.due("lo first", x.worstAt(i), 2);
        }
        Check.due("cost", x.worst(1, 0, 3, 2, 5), 5 + 10 + 15);
        Check.due("hi", x.worstAt(0), 5);
        Check.rule(x, "seen");
        x.use(0, 0);
        x.use(1, 0);
        Check.due("the greatest order is in week 1 at least", x.worst(1, 1, 3, 2, 5), 5);
        Check.due("lo first, so it is the second", x.worstAt(0), 2);
        Check.due("hi", x.worstAt(1), 5);
        Check.due("lo", x.worstAt(2), 2);
        x.weeks(6, 900);
        Check.due("what was ordered before", x.about(0, 10), 900);
        Check.due("and what is under way", x.worst(1, 1, 1, 0, 0), 900);
        x.week();
        Check.due("was before", x.worst(1, 1, 1, 0, 0), 0);
    }

    private static void gets() {
        OrderEcho x = new OrderEcho();
        long[][] due = {{5, 4, 0, 0}, {2, 3, 1, 3}, {3, 2, 2, 2}};
        for (int how = 0; how < 3; how++) {
            for (int i = 0; i < 4; i++) {
                Check.due("gets, how " + how + ", " + i, x.gets(how, 9, 0x9465, 4, i), due[how][i]);
                Check.due("enough", x.gets(how, 24, 0x9465, 4, i), 0x9465 >> 4 * i & 15);
                Check.due("plenty", x.gets(how, 40, 0x9465, 4, i), 0x9465 >> 4 * i & 15);
                Check.due("nothing there", x.gets(how, 0, 0x9465, 4, i), 0);
                Check.due("nothing claimed", x.gets(how, 5, 0, 4, i), 0);
            }
        }
        int[] even = {2, 5, 5, 4};
        for (int i = 0; i < 4; i++) {
            Check.due("evenly " + i, x.gets(2, 16, 0x4cc2, 4, i), even[i]);
        }
        Check.due("a claim of 0 gets none", x.gets(2, 5, 0xc0c, 3, 1), 0);
        Check.due("the first gets the odd one", x.gets(2, 5, 0xc0c, 3, 0), 3);
    }

    private static void claimRefusals() {
        OrderEcho x = new OrderEcho();
        Check.due("i -1", x.gets(9, 99, 0xfff, 9, -1), -1);
        Check.due("i k", x.gets(9, 99, 0xfff, 9, 9), -1);
        Check.due("i 2 of 2", x.gets(0, 5, 0x33, 2, 2), -1);
        int[][] bad = {{-1, 5, 2}, {3, 5, 2}, {0, -1, 2}, {0, 41, 2}, {0, 5, 1}, {0, 5, 5}, {0, 5, Integer.MAX_VALUE}};
        for (int[] b : bad) {
            Check.due("gets", x.gets(b[0], b[1], 0x33, b[2], 0), -2);
            Check.due("calm", x.calm(b[0], b[1], 0x33, 0x33, b[2]), -2);
            Check.due("calmest", x.calmest(b[0], b[1], 0x33, b[2]), -2);
        }
        Check.due("calm k 0", x.calm(0, 5, 0, 0, 0), -2);
        Check.due("calm k -5", x.calm(0, 5, 0, 0, -5), -2);
        Check.due("calmest k 4", x.calmest(0, 5, 0x3333, 4), -2);
        Check.due("claim 12", x.gets(0, 5, 0xcc, 2, 1), 0);
        Check.due("claim 13", x.gets(0, 5, 0xdc, 2, 1), -2);
        Check.due("claim 13", x.calm(0, 5, 0x33, 0xdc, 2), -2);
        Check.due("want 9", x.calm(0, 5, 0x99, 0xcc, 2) >= 0 ? 1 : 0, 1);
        Check.due("want 10", x.calm(0, 5, 0xa9, 0xcc, 2), -2);
        Check.due("want 10", x.calmest(0, 5, 0x9a, 2), -2);
    }

    /** Any bit above the k-th digit, the sign too, makes the number one that is not as told. */
    private static void tooManyDigits() {
        Fresh fresh = new Fresh();
        for (int k = 2; k <= 4; k++) {
            long row = 0x3333 & (1L << 4 * k) - 1;
            Check.due("k claims", fresh.next().gets(0, 40, row, k, 0), 3);
            Check.due("k wants and claims", fresh.next().calm(0, 40, row, row, k), 1);
            Check.due("k wants", fresh.next().calmest(0, 40, row, k), k == 4 ? -2 : row);
            for (int bit = 4 * k; bit < 64; bit++) {
                long more = row | 1L << bit;
                String what = "bit " + bit + " with k " + k;
                Check.due("gets: " + what, fresh.next().gets(0, 40, more, k, 0), -2);
                Check.due("gets, no such customer: " + what, fresh.next().gets(0, 40, more, k, k), -1);
                Check.due("calm, wants: " + what, fresh.next().calm(0, 40, more, row, k), -2);
                Check.due("calm, claims: " + what, fresh.next().calm(0, 40, row, more, k), -2);
                Check.due("calmest: " + what, fresh.next().calmest(0, 40, more, k), -2);
            }
        }
    }

    private static boolean plainCalm(Fresh fresh, int how, int s, int wants, int claims, int k) {
        for (int i = 0; i < k; i++) {
            int want = wants >> 4 * i & 15;
            int far = Math.abs(fresh.next().gets(how, s, claims, k, i) - want);
            for (int c = 0; c <= 12; c++) {
                int other = claims & ~(15 << 4 * i) | c << 4 * i;
                if (Math.abs(fresh.next().gets(how, s, other, k, i) - want) < far) {
                    return false;
                }
            }
        }
        return true;
    }

    private static void calm() {
        Fresh fresh = new Fresh();
        java.util.Random random = new java.util.Random(7);
        for (int turn = 0; turn < 400; turn++) {
            int k = 2 + turn % 2;
            int how = random.nextInt(3);
            int s = random.nextInt(random.nextInt(41) + 1);
            int wants = 0;
            for (int i = 0; i < k; i++) {
                wants = wants * 16 + random.nextInt(10);
            }
            long first = -1;
            int rows = k == 2 ? 169 : 2197;
            for (int row = 0; row < rows && first < 0; row++) {
                int claims = k == 2 ? row / 13 | row % 13 << 4 : row / 169 | row / 13 % 13 << 4 | row % 13 << 8;
                boolean is = plainCalm(fresh, how, s, wants, claims, k);
                Check.due("calm " + claims, fresh.next().calm(how, s, wants, claims, k), is ? 1 : 0);
                first = is ? claims : -1;
            }
            Check.due("calmest(" + how + "," + s + "," + wants + "," + k + ")", fresh.next().calmest(how, s, wants, k), first);
        }
        for (int turn = 0; turn < 2000; turn++) {
            int how = random.nextInt(3);
            int s = random.nextInt(30);
            int wants = 0;
            int claims = 0;
            for (int i = 0; i < 4; i++) {
                wants = wants * 16 + random.nextInt(10);
                claims = claims * 16 + random.nextInt(13);
            }
            claims = turn % 4 == 0 ? 0xcccc : claims;
            Check.due("calm of 4", fresh.next().calm(how, s, wants, claims, 4), plainCalm(fresh, how, s, wants, claims, 4) ? 1 : 0);
        }
    }

    private static void counts() {
        OrderEcho x = busy();
        x.feed(0, 3);
        long[] due = {5, 2, 4, 1, 3, 2};
        for (int what = 0; what < due.length; what++) {
            Check.due("count " + what, x.count(what), due[what]);
        }
        Check.due("count 6", x.count(6), -1);
        Check.due("count -1", x.count(-1), -1);
    }
}
