/** Counts answers that are not as due, and ends a test with 1 if there was one. */
final class Check {
    private static int wrong = 0;
    private static int asked = 0;

    private Check() {
    }

    static void due(String call, long got, long want) {
        asked++;
        if (got != want) {
            wrong++;
            if (wrong <= 40) {
                System.out.println(call + " answered " + got + ", due is " + want);
            }
        }
    }

    static void holds(String what, boolean fine) {
        due(what, fine ? 1 : 0, 1);
    }

    static boolean allFine() {
        return wrong == 0;
    }

    /** Feeds a text to the tape and reads it as a rule. */
    static int rule(OrderEcho x, String text) {
        int fed = feed(x, text);
        return fed < 0 ? fed : x.rule();
    }

    /** As few calls as can be: an object has 512 of them. */
    static int feed(OrderEcho x, String text) {
        int fed = 0;
        for (int i = 0; i < text.length() && fed >= 0; i += 8) {
            String part = text.substring(i, Math.min(text.length(), i + 8));
            long bytes = 0;
            for (int j = 0; j < part.length(); j++) {
                bytes = bytes << 8 | part.charAt(j) & 255;
            }
            fed = x.feed(bytes, part.length());
        }
        return fed;
    }

    /** A digger, a maker, a store and two shops at it. */
    static OrderEcho fiveStages() {
        OrderEcho x = new OrderEcho();
        x.stage(0, 0, 2, 0, 30);
        x.stage(1, 0, 1, 1, 20);
        x.stage(2, 1, 1, 0, 12);
        x.stage(3, 2, 2, 0, 10);
        x.stage(3, 2, 1, 0, 6);
        return x;
    }

    static void end(String test) {
        System.out.println(test + ": " + asked + " asked, " + wrong + " wrong");
        if (wrong != 0) {
            System.exit(1);
        }
    }
}
