import java.util.function.Supplier;

/** Section 7 and promises 29 to 34: each bound of worst demands and claims, just inside it and just outside it. */
public final class ClaimEdgeTest {
    private static final int LEAST = Integer.MIN_VALUE, MOST = Integer.MAX_VALUE;

    public static void main(String[] args) {
        weeksToCome();
        spans();
        sameSpan();
        shopsAndWhats();
        lastWeeks();
        rowsWithTheSameValue();
        allIsAsBefore();
        rowOfTheLatest();
        noRowYet();
        customers();
        goods();
        claimsUpTo();
        wantsUpTo();
        tooManyDigits();
        justEnoughForAll();
        fewerCustomersThanBefore();
        allotmentsOfClaims();
        nearerOrNot();
        everyRowOfTwo();
        alwaysCalm();
        counts();
        Check.end("ClaimEdgeTest");
    }

    private static OrderEcho shop(int stock) {
        OrderEcho x = new OrderEcho();
        x.stage(0, 0, 1, 0, 0);
        x.stage(3, 0, 1, 0, stock);
        return x;
    }

    /** "n weeks (1 .. 6)": with nothing in stock the cost grows by each week's demand again. */
    private static void weeksToCome() {
        OrderEcho x = shop(0);
        for (int n = 1; n <= 6; n++) {
            Check.due("n " + n, x.worst(1, 0, n, 1, 2), n * (n + 1));
            for (int i = 0; i < n; i++) {
                Check.due("week " + i, x.worstAt(i), 2);
            }
            Check.due("week n", x.worstAt(n), -1);
        }
        int[] bad = {LEAST, -1, 0, 7, 31, 32, MOST};
        for (int n : bad) {
            Check.due("n " + n, x.worst(1, 0, n, 1, 2), -2);
        }
        Check.due("the row of 6 weeks stays", x.worstAt(5), 2);
        Check.due("no week 6", x.worstAt(6), -1);
        Check.due("no week -1", x.worstAt(-1), -1);
        Check.due("no week of the least", x.worstAt(LEAST), -1);
        Check.due("no week of the most", x.worstAt(MOST), -1);
    }

    /** "lo or hi (0 .. 999, lo not above hi". */
    private static void spans() {
        OrderEcho x = shop(0);
        Check.due("0 and 999", x.worst(1, 0, 1, 0, 999), 999);
        Check.due("its row", x.worstAt(0), 999);
        Check.due("998 and 999", x.worst(1, 0, 1, 998, 999), 999);
        int[][] bad = {{-1, 0}, {-1, -1}, {0, -1}, {0, 1000}, {999, 1000}, {1000, 1000}, {1000, 999}, {1, 0}, {999, 998},
            {999, 0}, {LEAST, 0}, {0, LEAST}, {0, MOST}, {MOST, MOST}, {LEAST, LEAST}, {LEAST, MOST}, {MOST, LEAST}};
        for (int[] span : bad) {
            Check.due("lo " + span[0] + " hi " + span[1], x.worst(1, 0, 1, span[0], span[1]), -2);
        }
        Check.due("the row stays", x.worstAt(0), 999);
        OrderEcho y = shop(5);
        Check.due("in stock it costs more", y.worst(1, 0, 1, 0, 5), 5);
        Check.due("lo", y.worstAt(0), 0);
    }

    /** lo equal to hi: all rows are the same. */
    private static void sameSpan() {
        int[] spans = {0, 1, 998, 999};
        for (int d : spans) {
            OrderEcho x = shop(0);
            Check.due("lo and hi " + d, x.worst(1, 0, 3, d, d), 6 * d);
            for (int i = 0; i < 3; i++) {
                Check.due("week " + i, x.worstAt(i), d);
            }
        }
    }

    /** "NONE: no SHOP, what". */
    private static void shopsAndWhats() {
        OrderEcho x = Check.fiveStages();
        int[] none = {LEAST, -1, 0, 1, 2, 5, 7, 8, MOST};
        for (int s : none) {
            Check.due("no SHOP " + s, x.worst(s, 0, 1, 0, 1), -1);
            Check.due("NONE ahead of BAD", x.worst(s, 0, 7, 1, 0), -1);
        }
        int[] whats = {LEAST, -1, 2, MOST};
        for (int what : whats) {
            Check.due("what " + what, x.worst(3, what, 1, 0, 1), -1);
            Check.due("NONE ahead of BAD", x.worst(3, what, 0, 0, 1), -1);
        }
        for (int s = 3; s <= 4; s++) {
            Check.due("SHOP " + s, x.worst(s, 0, 1, 0, 1), 78);
            Check.due("SHOP " + s, x.worst(s, 1, 1, 0, 1), 0);
        }
    }

    private static OrderEcho after(int weeks) {
        OrderEcho x = shop(0);
        for (int left = weeks; left > 0; left -= 20) {
            x.weeks(Math.min(20, left), 0);
        }
        return x;
    }

    /** "STATE: more than 400 weeks." */
    private static void lastWeeks() {
        for (int n = 1; n <= 6; n++) {
            OrderEcho x = after(400 - n);
            Check.due("just 400", x.worst(1, 0, n, 0, 2), n * (n + 1));
            Check.due("its last week", x.worstAt(n - 1), 2);
            Check.due("weeks", x.count(2), 400 - n);
            Check.due("the week goes by", x.week(), 0);
            Check.due("401", x.worst(1, 0, n, 0, 3), -3);
            Check.due("BAD ahead of STATE", x.worst(1, 0, n, 3, 0), -2);
            Check.due("NONE ahead of STATE", x.worst(0, 0, n, 0, 3), -1);
            Check.due("NONE ahead of STATE", x.worst(1, 2, n, 0, 3), -1);
            Check.due("the row stays", x.worstAt(n - 1), 2);
            Check.due("weeks", x.count(2), 401 - n);
        }
        OrderEcho x = after(400);
        Check.due("400 weeks went by", x.worst(1, 0, 1, 0, 3), -3);
        Check.due("no row", x.worstAt(0), -1);
    }

    /** "of several the one that has lo first where they differ". */
    private static void rowsWithTheSameValue() {
        OrderEcho x = shop(0);
        Check.due("nothing is ordered by STAGE 0", x.worst(1, 1, 6, 3, 8), 0);
        for (int i = 0; i < 6; i++) {
            Check.due("lo in week " + i, x.worstAt(i), 3);
        }
        int seen = Check.rule(x, "seen");
        x.use(0, seen);
        x.use(1, seen);
        for (int n = 2; n <= 6; n++) {
            Check.due("the last but one is hi alone", x.worst(1, 1, n, 3, 8), 8);
            for (int i = 0; i < n; i++) {
                Check.due("week " + i + " of " + n, x.worstAt(i), i == n - 2 ? 8 : 3);
            }
        }
        Check.due("not known in a week", x.worst(1, 1, 1, 3, 8), 0);
        Check.due("lo", x.worstAt(0), 3);
        OrderEcho free = shop(9);
        free.set(0, 2, 0);
        free.set(0, 3, 0);
        free.set(1, 2, 0);
        free.set(1, 3, 0);
        Check.due("nothing costs", free.worst(1, 0, 4, 0, 999), 0);
        for (int i = 0; i < 4; i++) {
            Check.due("lo in week " + i, free.worstAt(i), 0);
        }
    }

    /** "All is as before then.": looked at with each n, each what, each SHOP; what was told for this week too. */
    private static void allIsAsBefore() {
        for (int n = 1; n <= 6; n++) {
            for (int what = 0; what <= 1; what++) {
                for (int s = 3; s <= 4; s++) {
                    beforeAndAfter("busy", Twin::busy, s, what, n);
                    beforeAndAfter("young", Twin::young, s, what, n);
                    int gone = 400 - n;
                    beforeAndAfter("near the end", () -> Twin.at(gone), s, what, n);
                }
            }
        }
    }

    private static void beforeAndAfter(String name, Supplier<OrderEcho> make, int s, int what, int n) {
        long due = make.get().worst(s, what, n, 1, 40);
        Check.holds(name + ": there is a worst row", due >= 0);
        Twin.asBefore(name + ": worst " + s + " " + what + " " + n, make, due, x -> x.worst(s, what, n, 1, 40));
    }

    /** "DEMAND of week i of the latest worst() that was not refused." */
    private static void rowOfTheLatest() {
        OrderEcho x = shop(0);
        x.worst(1, 0, 6, 0, 7);
        Check.due("6 weeks", x.worstAt(5), 7);
        x.worst(1, 0, 2, 0, 5);
        Check.due("2 weeks", x.worstAt(1), 5);
        Check.due("not of the one ahead", x.worstAt(2), -1);
        Check.due("not of the one ahead", x.worstAt(5), -1);
        Check.due("refused", x.worst(1, 0, 7, 0, 5), -2);
        Check.due("refused", x.worst(0, 0, 1, 0, 5), -1);
        Check.due("2 weeks still", x.worstAt(1), 5);
        x.weeks(3, 1);
        Check.due("weeks change it not", x.worstAt(1), 5);
        Check.due("0 is an answer", x.worst(1, 1, 1, 0, 5), 0);
        Check.due("0", x.worstAt(0), 0);
        Check.due("1 week", x.worstAt(1), -1);
    }

    private static void noRowYet() {
        OrderEcho x = shop(0);
        int[] all = {LEAST, -1, 0, 1, 5, 6, MOST};
        for (int i : all) {
            Check.due("worstAt " + i, x.worstAt(i), -1);
        }
        x.worst(1, 0, 0, 0, 1);
        Check.due("refused", x.worstAt(0), -1);
    }

    /** "k CUSTOMERS (2 .. 4)", and 2 or 3 for THE CALM; "NONE: i". */
    private static void customers() {
        OrderEcho x = new OrderEcho();
        for (int k = 2; k <= 4; k++) {
            long row = 0x4321 & (1L << 4 * k) - 1;
            for (int i = 0; i < k; i++) {
                Check.due("gets " + k + " " + i, x.gets(0, 40, row, k, i), i + 1);
            }
            Check.due("i -1", x.gets(0, 40, row, k, -1), -1);
            Check.due("i k", x.gets(0, 40, row, k, k), -1);
            Check.due("the least i", x.gets(0, 40, row, k, LEAST), -1);
            Check.due("the most i", x.gets(0, 40, row, k, MOST), -1);
            Check.due("NONE ahead of BAD", x.gets(3, 41, 0xffff, k, k), -1);
            Check.due("calm " + k, x.calm(0, 40, row, row, k), 1);
            Check.due("calmest " + k, x.calmest(0, 40, row, k), k == 4 ? -2 : row);
        }
        int[] bad = {LEAST, -1, 0, 1, 5, 8, 16, 32, MOST};
        for (int k : bad) {
            Check.due("gets k " + k, x.gets(0, 40, 0, k, 0), k < 1 ? -1 : -2);
            Check.due("calm k " + k, x.calm(0, 40, 0, 0, k), -2);
            Check.due("calmest k " + k, x.calmest(0, 40, 0, k), -2);
        }
    }

    /** "one who has s (0 .. 40)"; ALLOTMENT 0, 1, 2. */
    private static void goods() {
        OrderEcho x = new OrderEcho();
        for (int how = 0; how <= 2; how++) {
            Check.due("s 0", x.gets(how, 0, 0xcccc, 4, 0), 0);
            Check.due("s 1", x.gets(how, 1, 0xcccc, 4, 0), 1);
            Check.due("s 40", x.gets(how, 40, 0xcccc, 4, 0), how == 0 ? 12 : 10);
            Check.due("calm, s 0", x.calm(how, 0, 0x99, 0xcc, 2), 1);
            Check.due("calm, s 40", x.calm(how, 40, 0x99, 0x99, 2), 1);
            Check.due("calmest, s 0", x.calmest(how, 0, 0x99, 2), 0);
            Check.due("calmest, s 40", x.calmest(how, 40, 0x99, 2), 0x99);
        }
        int[] bad = {LEAST, -1, 41, MOST};
        for (int s : bad) {
            Check.due("gets s " + s, x.gets(0, s, 0x11, 2, 0), -2);
            Check.due("calm s " + s, x.calm(0, s, 0x11, 0x11, 2), -2);
            Check.due("calmest s " + s, x.calmest(0, s, 0x11, 2), -2);
        }
        int[] hows = {LEAST, -1, 3, MOST};
        for (int how : hows) {
            Check.due("gets how " + how, x.gets(how, 5, 0x11, 2, 0), -2);
            Check.due("calm how " + how, x.calm(how, 5, 0x11, 0x11, 2), -2);
            Check.due("calmest how " + how, x.calmest(how, 5, 0x11, 2), -2);
        }
        x.allot(2);
        Check.due("not the ALLOTMENT of the net", x.gets(0, 5, 0xcc, 2, 1), 0);
    }

    /** "claim c(i) (0 .. 12)": at each place. */
    private static void claimsUpTo() {
        OrderEcho x = new OrderEcho();
        for (int k = 2; k <= 4; k++) {
            for (int i = 0; i < k; i++) {
                for (long claim = 0; claim <= 15; claim++) {
                    long row = claim << 4 * i;
                    boolean fine = claim <= 12;
                    Check.due("claim " + claim, x.gets(0, 40, row, k, i), fine ? claim : -2);
                    Check.due("claim " + claim, x.calm(0, 0, 0, row, k), fine ? 1 : -2);
                }
            }
        }
    }

    /** "want w(i) (0 .. 9)": at each place. */
    private static void wantsUpTo() {
        OrderEcho x = new OrderEcho();
        for (int k = 2; k <= 4; k++) {
            for (int i = 0; i < k; i++) {
                for (long want = 0; want <= 15; want++) {
                    long row = want << 4 * i;
                    boolean fine = want <= 9;
                    Check.due("want " + want, x.calm(0, 0, row, 0, k), fine ? 1 : -2);
                    Check.due("want " + want, x.calmest(0, 40, row, k), fine && k < 4 ? row : -2);
                }
            }
        }
    }

    /** The lowest digit too many, the highest, and the sign. */
    private static void tooManyDigits() {
        OrderEcho x = new OrderEcho();
        for (int k = 2; k <= 4; k++) {
            long[] more = {1L << 4 * k, 12L << 4 * k, 1L << 60, Long.MIN_VALUE, -1L << 4 * k, -1L};
            for (long row : more) {
                Check.due("gets " + row, x.gets(0, 5, row, k, 0), -2);
                Check.due("calm, wants " + row, x.calm(0, 5, row, 0, k), -2);
                Check.due("calm, claims " + row, x.calm(0, 5, 0, row, k), -2);
                Check.due("calmest " + row, x.calmest(0, 5, row, k), -2);
                Check.due("NONE first", x.gets(0, 5, row, k, k), -1);
            }
            Check.due("the highest that is told", x.gets(0, 5, 1L << 4 * k - 4, k, k - 1), 1);
        }
    }

    /** "(what each claims, if it is enough for all)": 1 less than all, just all, and 1 more. */
    private static void justEnoughForAll() {
        OrderEcho x = new OrderEcho();
        int[][] less = {{5, 6, 3}, {5, 6, 3}, {5, 5, 4}};
        for (int how = 0; how <= 2; how++) {
            for (int i = 0; i < 3; i++) {
                int claim = 0x465 >> 4 * i & 15;
                Check.due("just all", x.gets(how, 15, 0x465, 3, i), claim);
                Check.due("1 more", x.gets(how, 16, 0x465, 3, i), claim);
                Check.due("1 less", x.gets(how, 14, 0x465, 3, i), less[how][i]);
                Check.due("nothing is claimed", x.gets(how, 14, 0, 3, i), 0);
                Check.due("nothing is there", x.gets(how, 0, 0x465, 3, i), 0);
                Check.due("nothing is there or claimed", x.gets(how, 0, 0, 3, i), 0);
            }
        }
    }

    /** Nothing of the customers of an earlier call comes into a later one. */
    private static void fewerCustomersThanBefore() {
        int[][] due = {{4, 1}, {3, 2}, {3, 2}};
        for (int how = 0; how <= 2; how++) {
            OrderEcho x = new OrderEcho();
            for (int i = 0; i < 2; i++) {
                x.gets(how, 20, 0xcccc, 4, 3);
                Check.due("gets, how " + how + ", " + i, x.gets(how, 5, 0x54, 2, i), due[how][i]);
            }
            x.gets(how, 2, 0x1111, 4, 3);
            Check.due("the first of much", x.gets(how, 20, 0xcc, 2, 0), how == 0 ? 12 : 10);
            x.gets(how, 2, 0x1111, 4, 3);
            Check.due("the second of much", x.gets(how, 20, 0xcc, 2, 1), how == 0 ? 8 : 10);
            x.calm(how, 20, 0x9999, 0xcccc, 4);
            Check.due("calm", x.calm(how, 5, due[how][1] << 4 | due[how][0], 0x54, 2), 1);
            x.calmest(how, 7, 0x999, 3);
            Check.due("calmest", x.calmest(how, 18, 0x99, 2), 0x99);
        }
    }

    /** All rows of three claims against allotments that are worked out one by one. */
    private static void allotmentsOfClaims() {
        Fresh fresh = new Fresh();
        for (int row = 0; row < 2197; row++) {
            int[] claims = {row / 169, row / 13 % 13, row % 13};
            int s = row * 7 % 41;
            for (int how = 0; how <= 2; how++) {
                int[] due = plainly(how, s, claims);
                for (int i = 0; i < 3; i++) {
                    long told = claims[0] | claims[1] << 4 | claims[2] << 8;
                    Check.due("gets " + how + " " + s + " " + told, fresh.next().gets(how, s, told, 3, i), due[i]);
                }
            }
        }
    }

    private static int[] plainly(int how, int s, int[] claims) {
        int all = 0;
        for (int claim : claims) {
            all += claim;
        }
        int[] got = new int[claims.length];
        int left = s;
        if (how == 1 && s < all) {
            for (int i = 0; i < claims.length; i++) {
                got[i] = s * claims[i] / all;
                left -= got[i];
            }
        }
        for (int round = 0; round < 12; round++) {
            for (int i = 0; i < claims.length; i++) {
                int more = Math.min(left, how == 0 ? claims[i] - got[i] : Math.min(1, claims[i] - got[i]));
                got[i] += more;
                left -= more;
            }
        }
        return got;
    }

    /** "if none could get nearer to what it wants by another claim": as near is not nearer; claims 0 and 12 count. */
    private static void nearerOrNot() {
        OrderEcho x = new OrderEcho();
        Check.due("gets what it wants", x.calm(0, 5, 0x32, 0x32, 2), 1);
        Check.due("1 too many, 1 nearer by 1 less", x.calm(0, 5, 0x32, 0x33, 2), 0);
        Check.due("claims 0, wants 1", x.calm(0, 5, 0x01, 0x00, 2), 0);
        Check.due("claims 1, wants 0", x.calm(0, 5, 0x00, 0x01, 2), 0);
        Check.due("nothing there: any row", x.calm(0, 0, 0x99, 0x00, 2), 1);
        Check.due("nothing there: any row", x.calm(0, 0, 0x99, 0xcc, 2), 1);
        Check.due("the second can't have more", x.calm(0, 5, 0x93, 0xc3, 2), 1);
        Check.due("the second can't have more by more", x.calm(0, 5, 0x93, 0x23, 2), 1);
        Check.due("the second could have 1 more", x.calm(0, 5, 0x93, 0x13, 2), 0);
        Check.due("12 is the most: both 12 of 9", x.calm(1, 9, 0x99, 0xcc, 2), 1);
        Check.due("11 and 12 of 9: 12 gets the first no more", x.calm(1, 9, 0x99, 0xcb, 2), 1);
        Check.due("12 alone gets the second 6, not 5", x.calm(1, 12, 0x97, 0xbc, 2), 0);
        Check.due("both 12 of 12", x.calm(1, 12, 0x97, 0xcc, 2), 1);
        Check.due("more than it wants can't be helped by less", x.calm(2, 5, 0x02, 0x02, 2), 1);
    }

    private static boolean plainCalm(int how, int s, int[] wants, int[] claims) {
        for (int i = 0; i < claims.length; i++) {
            int far = Math.abs(plainly(how, s, claims)[i] - wants[i]);
            for (int c = 0; c <= 12; c++) {
                int[] other = claims.clone();
                other[i] = c;
                if (Math.abs(plainly(how, s, other)[i] - wants[i]) < far) {
                    return false;
                }
            }
        }
        return true;
    }

    /** Each row of two claims for wants at the ends, and the first calm one of them. */
    private static void everyRowOfTwo() {
        int[] ends = {0, 1, 5, 9};
        int[] goods = {0, 1, 2, 9, 17, 18, 19, 24, 40};
        for (int how = 0; how <= 2; how++) {
            for (int s : goods) {
                for (int first : ends) {
                    for (int second : ends) {
                        compareRows(how, s, first, second);
                    }
                }
            }
        }
    }

    private static void compareRows(int how, int s, int first, int second) {
        OrderEcho x = new OrderEcho();
        long due = -1;
        for (int row = 0; row < 169; row++) {
            int[] claims = {row / 13, row % 13};
            boolean is = plainCalm(how, s, new int[] {first, second}, claims);
            long told = claims[0] | claims[1] << 4;
            Check.due("calm " + how + " " + s + " " + first + " " + second + " " + told,
                x.calm(how, s, first | second << 4, told, 2), is ? 1 : 0);
            due = is && due < 0 ? told : due;
        }
        Check.due("calmest " + how + " " + s + " " + first + " " + second, x.calmest(how, s, first | second << 4, 2), due);
    }

    /** "-1: there is none." For 2 and for 3 CUSTOMERS there is one, whatever they want: each of them is looked at. */
    private static void alwaysCalm() {
        Fresh fresh = new Fresh();
        for (int how = 0; how <= 2; how++) {
            for (int s = 0; s <= 40; s++) {
                for (int row = 0; row < 100; row++) {
                    isThere(fresh, how, s, row / 10 | row % 10 << 4, 2);
                }
                for (int row = 0; row < 1000; row++) {
                    isThere(fresh, how, s, row / 100 | row / 10 % 10 << 4 | row % 10 << 8, 3);
                }
            }
        }
    }

    private static void isThere(Fresh fresh, int how, int s, long wants, int k) {
        long row = fresh.next().calmest(how, s, wants, k);
        Check.due("calmest " + how + " " + s + " " + wants + " is calm", fresh.next().calm(how, s, wants, row, k), 1);
    }

    /** "0 STAGES .. 5 SHOPS. NONE." */
    private static void counts() {
        OrderEcho x = Twin.busy();
        long[] due = {5, 2, 4, 1, 2, 2};
        for (int what = 0; what <= 5; what++) {
            Check.due("count " + what, x.count(what), due[what]);
        }
        int[] none = {LEAST, -1, 6, MOST};
        for (int what : none) {
            Check.due("count " + what, x.count(what), -1);
        }
        OrderEcho full = Twin.full();
        long[] most = {8, 12, 0, 0, 120, 4};
        for (int what = 0; what <= 5; what++) {
            Check.due("the most of " + what, full.count(what), most[what]);
        }
        Check.due("the most weeks", Twin.at(400).count(2), 400);
    }
}
