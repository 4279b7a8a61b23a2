/** Section 4 and promises 15 to 17: each bound of the tape and of rules, just inside it and just outside it. */
public final class RuleEdgeTest {
    private static final long NO = Long.MIN_VALUE;
    private static final int LEAST = Integer.MIN_VALUE, MOST = Integer.MAX_VALUE;
    private static final String SIGNS = "+-*/", DIGITS = "0123456789", LETTERS = "sowmp";
    private static final String[] WORDS = {"stock", "owed", "way", "seen", "mean", "week", "place"};

    public static void main(String[] args) {
        bytesAtOnce();
        fullTape();
        almostFullTape();
        longestRules();
        digits();
        openOnes();
        openOnesAgain();
        eachByteBehind();
        words();
        faultsAtTheEnds();
        tapeIsEmptyThen();
        twelveRules();
        quotients();
        steps();
        means();
        weekNumbers();
        worths();
        Check.end("RuleEdgeTest");
    }

    /** "n not 1 .. 8"; "The n lowest bytes of w, the highest first". */
    private static void bytesAtOnce() {
        OrderEcho x = new OrderEcho();
        int[] bad = {LEAST, -1, 0, 9, MOST};
        for (int n : bad) {
            Check.due("feed " + n, x.feed(0x31, n), -2);
        }
        Check.due("no byte came", x.count(4), 0);
        Check.due("1 byte", x.feed(0x2B31L, 1), 1);
        Check.due("8 bytes", x.feed(0x2B32_2B33_2B34_2B35L, 8), 9);
        Check.due("rule", x.rule(), 0);
        x.stage(0, 0, 1, 0, 0);
        Check.due("1+2+3+4+5", x.worth(0, 0), 15);
        Check.due("what is above is not looked at", x.feed(-1L << 8 | '6', 1), 1);
        Check.due("rule", x.rule(), 1);
        Check.due("6", x.worth(1, 0), 6);
        Check.due("8 bytes of 255", x.feed(-1L, 8), 8);
        Check.due("none begins so", x.rule(), -10);
    }

    private static String times(String text, int n) {
        StringBuilder all = new StringBuilder();
        for (int i = 0; i < n; i++) {
            all.append(text);
        }
        return all.toString();
    }

    /** "THE TAPE (bytes, 120 at most)": 120, and one more. */
    private static void fullTape() {
        for (int n = 1; n <= 8; n++) {
            OrderEcho x = new OrderEcho();
            Check.due("120 - " + n + " bytes", Check.feed(x, times("1", 120 - n)), 120 - n);
            Check.due("just 120", x.feed(0x3131_3131_3131_3131L, n), 120);
            for (int more = 1; more <= 8; more++) {
                Check.due("120 and " + more, x.feed(0x31, more), -4);
            }
            Check.due("BAD ahead of FULL", x.feed(0x31, 0), -2);
            Check.due("BAD ahead of FULL", x.feed(0x31, 9), -2);
            Check.due("120 bytes", x.count(4), 120);
            Check.due("the fifth digit", x.rule(), -14);
        }
    }

    /** A feed that would go beyond 120 gives none of its bytes. */
    private static void almostFullTape() {
        for (int n = 2; n <= 8; n++) {
            OrderEcho x = new OrderEcho();
            x.stage(0, 0, 1, 0, 0);
            String text = times("0+", 60).substring(0, 120 - n);
            Check.feed(x, text + (n % 2 == 0 ? "7" : "+"));
            Check.due("120 - n + 1 bytes", x.count(4), 121 - n);
            Check.due("one too many", x.feed(0x3939_3939_3939_3939L, n), -4);
            Check.due("none of them came", x.count(4), 121 - n);
            if (n % 2 == 1) {
                Check.due("there is room for 1", x.feed('7', 1), 122 - n);
            }
            Check.due("rule", x.rule(), 0);
            Check.due("worth", x.worth(0, 0), 7);
        }
    }

    private static long worthOf(String text) {
        OrderEcho x = new OrderEcho();
        x.stage(0, 0, 1, 0, 0);
        Check.due(text, Check.rule(x, text), 0);
        return x.worth(0, 0);
    }

    /** Rules of just 120 bytes, with as many steps and as deep as can be. */
    private static void longestRules() {
        Check.due("60 atoms", worthOf(times("1+", 59) + "23"), 82);
        Check.due("60 products", worthOf(times("2*", 59) + "99"), 1000000000L);
        Check.due("60 quotients", worthOf("99" + times("/1", 59)), 99);
        String deep = "max(1,max(1,max(1,max(1,max(1,max(1,";
        String text = deep + times("1+", 38) + "1))))))";
        Check.due("deep", text.length(), 119);
        Check.due("deep", worthOf(text), 39);
        String mixed = "0-1*(0-1*(0-1*(0-1*(0-1*(0-1*(" + times("3-", 40) + "3))))))";
        Check.due("many wait at once", mixed.length(), 117);
        Check.due("many wait at once", worthOf(mixed + "+40"), -117 + 40);
        String right = "1+1*max(1,2+1*max(1,2+1*max(1,2+1*max(1,2+1*max(1,2+1*max(1,2+1*2))))))";
        Check.due("each waits with three", worthOf(right), 15);
    }

    /** "1 to 4 digits": and a fifth, wherever they stand. */
    private static void digits() {
        Check.due("1 digit", worthOf("9"), 9);
        Check.due("4 digits", worthOf("9999"), 9999);
        Check.due("4 digits", worthOf("0000"), 0);
        Check.due("4 digits", worthOf("0009"), 9);
        Check.due("4 digits and again 4", worthOf("1234+1234"), 2468);
        fault("12345", 4);
        fault("00000", 4);
        fault("00001", 4);
        fault("1+12345", 6);
        fault("(12345)", 5);
        fault("min(12345,1)", 8);
        fault("min(1,12345)", 10);
        fault("1234+1234+12345+1", 14);
        fault("123456789", 4);
    }

    private static void fault(String text, int place) {
        OrderEcho x = new OrderEcho();
        Check.due(text, Check.rule(x, text), -10 - place);
        Check.due("THE TAPE is empty then, too", x.count(4), 0);
        Check.due("no RULE", x.count(1), 0);
    }

    /** "At most 6 ( are open at once": "a ( too many: its place". */
    private static void openOnes() {
        String[] opens = {"(", "min(", "max("};
        String[] closes = {")", ",1)", ",1)"};
        for (int i = 0; i < 3; i++) {
            String six = times(opens[i], 6);
            String end = times(closes[i], 6);
            Check.due("6 open " + opens[i], worthOf(six + "1" + end), 1);
            for (int j = 0; j < 3; j++) {
                int place = six.length() + opens[j].length() - 1;
                fault(six + opens[j] + "1" + closes[j] + end, place);
                fault(six + opens[j], place);
                fault(six + "2+" + opens[j] + "1" + closes[j] + end, place + 2);
                fault(six + "2*" + opens[j], place + 2);
            }
            fault(six, six.length());
            fault(six + "1" + end + ")", six.length() + 1 + end.length());
        }
        Check.due("6 open in the second sum", worthOf("min(1,(((((1))))))"), 1);
        fault("min(1,((((((1)))))))", 11);
        Check.due("6 open of all", worthOf("(min(1,max(1,((min(1,2))))))"), 1);
        fault("(min(1,max(1,((min(1,(2", 21);
    }

    /** What is closed is not open any more. */
    private static void openOnesAgain() {
        Check.due("6, and 6 behind", worthOf("((((((1))))))+((((((2))))))"), 3);
        Check.due("5 and 5 within one", worthOf("((((((1)))))+(((((2))))))"), 3);
        fault("((((((1)))))+((((((2", 18);
        Check.due("5 in each sum of min", worthOf("min((((((1))))),(((((2))))))"), 1);
        fault("min((((((1))))),((((((2", 21);
        fault("((((((1))))))+(((((((2", 20);
        Check.due("many, one behind another", worthOf(times("(1)+", 29) + "(1)"), 30);
    }

    /** All 256 bytes behind a beginning: which of them are fine, which end too early, and the FAULT of all others. */
    private static void eachByteBehind() {
        String atom = "(" + LETTERS;
        eachByte("", DIGITS, atom);
        eachByte("1", DIGITS, SIGNS);
        eachByte("123", DIGITS, SIGNS);
        eachByte("1234", "", SIGNS);
        eachByte("1+", DIGITS, atom);
        eachByte("1-", DIGITS, atom);
        eachByte("1*", DIGITS, atom);
        eachByte("1/", DIGITS, atom);
        eachByte("(", "", DIGITS + atom);
        eachByte("(1", ")", DIGITS + SIGNS);
        eachByte("(1)", "", SIGNS);
        eachByte("((((((", "", DIGITS + LETTERS);
        eachByte("((((((min", "", "");
        eachByte("(((((min", "", "(");
        eachByte("min", "", "(");
        eachByte("max", "", "(");
        eachByte("min(", "", DIGITS + atom);
        eachByte("min(1", "", DIGITS + SIGNS + ",");
        eachByte("min(1,", "", DIGITS + atom);
        eachByte("min(1,2", ")", DIGITS + SIGNS);
        eachByte("max(1,2", ")", DIGITS + SIGNS);
        eachByte("max(1,2)", "", SIGNS);
        eachByte("m", "", "eia");
        eachByte("w", "", "ae");
        eachByte("s", "", "te");
        eachByte("we", "", "e");
        eachByte("me", "", "a");
        eachByte("stock", "", SIGNS);
    }

    private static void eachByte(String text, String fine, String early) {
        for (int b = 0; b < 256; b++) {
            OrderEcho x = new OrderEcho();
            Check.feed(x, text);
            x.feed(b, 1);
            int place = early.indexOf(b) >= 0 ? text.length() + 1 : text.length();
            Check.due("byte " + b + " behind " + text, x.rule(), fine.indexOf(b) >= 0 ? 0 : -10 - place);
            Check.due("the tape", x.count(4), 0);
        }
    }

    /** Each word too early by each number of bytes, and with a wrong byte at each place. */
    private static void words() {
        for (String word : WORDS) {
            Check.due(word, worthOf(word), 0);
            Check.due("1+" + word, worthOf("1+" + word), 1);
            for (int i = 1; i < word.length(); i++) {
                fault(word.substring(0, i), i);
                fault(word.substring(0, i) + "_" + word.substring(i + 1), i);
                fault("1*" + word.substring(0, i) + "_", i + 2);
            }
            fault(word + word, word.length());
            fault(word + "1", word.length());
            fault(word + "(", word.length());
            fault(word.toUpperCase(), 0);
        }
        String[] calls = {"min(1,2)", "max(1,2)"};
        for (String call : calls) {
            for (int i = 1; i < call.length(); i++) {
                fault(call.substring(0, i), i);
            }
        }
    }

    /** The FAULT at the first byte, at the last, at the end, of an empty TAPE, and at the last of 120. */
    private static void faultsAtTheEnds() {
        fault("", 0);
        fault(")", 0);
        fault("+1", 0);
        fault(" 1", 0);
        fault("1+2)", 3);
        fault("1+2 ", 3);
        fault("1+", 2);
        fault("(1", 2);
        fault("max(1,2", 7);
        fault(times("1+", 60), 120);
        fault(times("1+", 59) + "1)", 119);
        fault(times("1+", 59) + "1x", 119);
        fault(times("1+", 59) + "+1", 118);
        fault(times("1+", 57) + "placf" + "1", 118);
        fault(times("1+", 58) + "plac", 120);
        fault(times("1+", 57) + "(12345", 119);
        fault(")" + times("1", 119), 0);
    }

    /** "THE TAPE is empty then, too": nothing of a faulty TAPE comes into the next RULE. */
    private static void tapeIsEmptyThen() {
        OrderEcho x = new OrderEcho();
        x.stage(0, 0, 1, 0, 0);
        Check.due("a FAULT", Check.rule(x, "12+"), -13);
        Check.due("the next one", Check.rule(x, "5"), 0);
        Check.due("5", x.worth(0, 0), 5);
        Check.due("a FAULT in a long one", Check.rule(x, times("1+", 60)), -130);
        Check.due("the next one", Check.rule(x, "(6)"), 1);
        Check.due("6", x.worth(1, 0), 6);
        Check.due("an empty TAPE", x.rule(), -10);
        Check.due("5 still", x.worth(0, 0), 5);
    }

    /** "RULES are numbered from 0 on, 12 at most." */
    private static void twelveRules() {
        OrderEcho x = new OrderEcho();
        x.stage(0, 0, 1, 0, 0);
        for (int r = 0; r < 12; r++) {
            Check.due("RULE " + r, Check.rule(x, "100+" + r), r);
            Check.due("RULES", x.count(1), r + 1);
        }
        Check.due("an empty TAPE", x.rule(), -4);
        String[] texts = {"1", "+1", ")", "stock"};
        int length = 0;
        for (String text : texts) {
            length += text.length();
            Check.due("a thirteenth", Check.rule(x, text), -4);
            Check.due("THE TAPE stays", x.count(4), length);
        }
        Check.due("12 RULES", x.count(1), 12);
        Check.due("no RULE 12", x.worth(12, 0), NO);
        Check.due("no RULE 12", x.use(0, 12), -5);
        for (int r = 0; r < 12; r++) {
            Check.due("worth " + r, x.worth(r, 0), 100 + r);
        }
    }

    /** "A quotient is cut towards 0, by 0 it is 0." */
    private static void quotients() {
        Object[][] due = {{"7/0", 0}, {"0/0", 0}, {"(0-7)/0", 0}, {"7/(3-3)", 0}, {"0/7", 0}, {"1+7/0*5", 1},
            {"7/0/0", 0}, {"1000*1000*1000/0", 0}, {"7/stock", 0}, {"1/1", 1}, {"1/2", 0}, {"(0-1)/2", 0},
            {"1/(0-2)", 0}, {"7/2", 3}, {"8/2", 4}, {"(0-7)/2", -3}, {"(0-8)/2", -4}, {"7/(0-2)", -3},
            {"(0-7)/(0-2)", 3}, {"(0-1)/1", -1}, {"9999/9999", 1}, {"9998/9999", 0}, {"(0-9999)/9999", -1},
            {"(0-9998)/9999", 0}};
        for (Object[] row : due) {
            Check.due((String) row[0], worthOf((String) row[0]), (Integer) row[1]);
        }
    }

    /** "What any step gives is kept within -1000000000 .. 1000000000." */
    private static void steps() {
        String top = "1000*1000*1000";
        Object[][] due = {
            {top, 1000000000L}, {top + "-1", 999999999L}, {top + "+1", 1000000000L}, {top + "+1-1", 999999999L},
            {top + "-1+1", 1000000000L}, {top + "-1+1+1-1", 999999999L}, {"1+" + top + "-1", 999999999L},
            {"0-" + top, -1000000000L}, {"0-" + top + "+1", -999999999L}, {"0-" + top + "-1", -1000000000L},
            {"0-" + top + "-1+1", -999999999L}, {"0-" + top + "+1-1", -1000000000L},
            {"1000*1000*999+1000*1000", 1000000000L}, {"1000*1000*999+1000*1000+1-1", 999999999L},
            {top + "*2/2", 500000000L}, {"(0-" + top + ")*2/2", -500000000L}, {top + "*(0-1)", -1000000000L},
            {top + "*(0-1)-1", -1000000000L}, {top + "*" + top, 1000000000L}, {"(0-" + top + ")*(" + top + ")",
                -1000000000L}, {"(0-" + top + ")*(0-" + top + ")", 1000000000L}, {top + "-(0-" + top + ")", 1000000000L},
            {"0-" + top + "-" + top, -1000000000L}, {"min(" + top + "+1,0)", 0L}, {"max(" + top + "+1,0)", 1000000000L},
            {"min(0-" + top + "-1,0)", -1000000000L}, {top + "/1", 1000000000L}, {"5000*5000*40-1", 999999999L},
            {"5000*5000*40+1-1", 999999999L}, {"5000*5000*41-5000*5000", 975000000L}};
        for (Object[] row : due) {
            Check.due((String) row[0], worthOf((String) row[0]), (Long) row[1]);
        }
    }

    /** "of SEEN of the latest 4 weeks, as many as there were (this one, too), cut". */
    private static void means() {
        OrderEcho x = new OrderEcho();
        x.stage(0, 0, 1, 0, 0);
        x.stage(3, 0, 1, 0, 0);
        int rule = Check.rule(x, "mean");
        x.use(1, rule);
        Check.due("ahead of any", x.worth(rule, 1), 0);
        int[] demands = {1, 2, 4, 8, 16, 0, 0, 0, 0, 999};
        int[] due = {1, 1, 2, 3, 7, 7, 6, 4, 0, 249};
        for (int w = 0; w < demands.length; w++) {
            x.demand(1, demands[w]);
            x.week();
            Check.due("mean in week " + w, x.about(1, 10), due[w]);
            Check.due("mean behind week " + w, x.worth(rule, 1), due[w]);
        }
    }

    /** "(the first one is 0; between weeks: of the latest one, 0 ahead of any)". */
    private static void weekNumbers() {
        OrderEcho x = new OrderEcho();
        x.stage(0, 0, 1, 0, 0);
        int rule = Check.rule(x, "week");
        x.use(0, rule);
        Check.due("ahead of any", x.worth(rule, 0), 0);
        for (int w = 0; w < 3; w++) {
            x.week();
            Check.due("in week " + w, x.about(0, 10), w);
            Check.due("behind week " + w, x.worth(rule, 0), w);
        }
        for (int i = 0; i < 19; i++) {
            x.weeks(20, 0);
        }
        x.weeks(17, 0);
        Check.due("400 weeks", x.count(2), 400);
        Check.due("in the last week", x.about(0, 10), 399);
        Check.due("behind the last week", x.worth(rule, 0), 399);
        Check.due("one more is refused", x.week(), -4);
        Check.due("399 still", x.worth(rule, 0), 399);
    }

    /** "(between weeks: SEEN is that of the latest week, 0 ahead of any). NO." */
    private static void worths() {
        OrderEcho x = Check.fiveStages();
        int[] none = {LEAST, -1, 1, 11, 12, MOST};
        int rule = Check.rule(x, "seen+1");
        for (int r : none) {
            Check.due("RULE " + r, x.worth(r, 0), NO);
        }
        int[] stages = {LEAST, -1, 5, 7, 8, MOST};
        for (int s : stages) {
            Check.due("STAGE " + s, x.worth(rule, s), NO);
        }
        Check.due("STAGE 0", x.worth(rule, 0), 1);
        x.demand(4, 9);
        Check.due("told is not SEEN yet", x.worth(rule, 4), 1);
        x.week();
        Check.due("SEEN in the latest week", x.worth(rule, 4), 10);
        x.week();
        Check.due("not in the one ahead of it", x.worth(rule, 4), 1);
    }
}
