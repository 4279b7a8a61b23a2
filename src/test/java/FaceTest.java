import java.lang.management.ManagementFactory;
import java.lang.reflect.Constructor;
import java.lang.reflect.Field;
import java.lang.reflect.Method;
import java.lang.reflect.Modifier;
import java.nio.file.Files;
import java.nio.file.Path;
import java.util.Arrays;
import java.util.HashSet;
import java.util.Set;
import java.util.TreeSet;
import java.util.regex.Matcher;
import java.util.regex.Pattern;

/** The public face, the rules of LANGUAGE.md that can be seen from outside, and the room that calls take. */
public final class FaceTest {
    private static final String[] FACE = {
        "int stage(int,int,int,int,int)", "int set(int,int,int)", "int use(int,int)", "int allot(int)",
        "int about(int,int)", "long place(int)", "int slot(int,int)", "int owed(int,int)", "long cost(int)",
        "long kept(int)", "int demand(int,int)", "int week()", "int weeks(int,int)", "int feed(long,int)",
        "int rule()", "long worth(int,int)", "long swing(int,int,int)", "long gain(int,int,int)",
        "int straight(int,int,int)", "long echo(int,int)", "long pole(int,int,int)", "long loud(int,int)",
        "int steady(long,int)", "int chances(int)", "long chance(int,int)", "int level(int,int,int)",
        "long levelCost(int,int,int,int)", "long worst(int,int,int,int,int)", "int worstAt(int)",
        "int gets(int,int,long,int,int)", "int calm(int,int,long,long,int)", "long calmest(int,int,long,int)",
        "int count(int)"};

    public static void main(String[] args) throws Exception {
        face();
        constants();
        noNameTwice();
        language();
        room();
        strangeNumbers();
        Check.end("FaceTest");
    }

    private static void face() {
        Set<String> due = new TreeSet<>(Arrays.asList(FACE));
        Set<String> found = new TreeSet<>();
        for (Method m : OrderEcho.class.getDeclaredMethods()) {
            if (Modifier.isPrivate(m.getModifiers())) {
                continue;
            }
            StringBuilder text = new StringBuilder(m.getReturnType() + " " + m.getName() + "(");
            for (Class<?> p : m.getParameterTypes()) {
                text.append(text.toString().endsWith("(") ? "" : ",").append(p);
            }
            found.add(text.append(")").toString());
            Check.holds(m + " is public and no static", (m.getModifiers() & (Modifier.PUBLIC | Modifier.STATIC)) == 1);
        }
        Check.holds("face: " + found, due.equals(found));
        Check.holds("public final", Modifier.isPublic(OrderEcho.class.getModifiers())
            && Modifier.isFinal(OrderEcho.class.getModifiers()));
        Constructor<?>[] all = OrderEcho.class.getDeclaredConstructors();
        Check.holds("one constructor", all.length == 1 && all[0].getParameterCount() == 0
            && Modifier.isPublic(all[0].getModifiers()));
    }

    private static void constants() {
        Check.due("NONE", OrderEcho.NONE, -1);
        Check.due("BAD", OrderEcho.BAD, -2);
        Check.due("STATE", OrderEcho.STATE, -3);
        Check.due("FULL", OrderEcho.FULL, -4);
        Check.due("NO", OrderEcho.NO, Long.MIN_VALUE);
        Check.due("SPENT", OrderEcho.SPENT, Long.MIN_VALUE + 1);
        int open = 0;
        for (Field f : OrderEcho.class.getDeclaredFields()) {
            open += Modifier.isPrivate(f.getModifiers()) ? 0 : 1;
            Check.holds(f + " is final if static", !Modifier.isStatic(f.getModifiers())
                || Modifier.isFinal(f.getModifiers()));
        }
        Check.due("open fields", open, 6);
    }

    private static void noNameTwice() {
        Set<String> names = new HashSet<>();
        for (String text : FACE) {
            names.add(text.substring(text.indexOf(' ') + 1, text.indexOf('(')));
        }
        for (Method m : OrderEcho.class.getDeclaredMethods()) {
            Check.holds(m + " is private", !Modifier.isPrivate(m.getModifiers()) || !names.contains(m.getName()));
        }
        Class<?>[] inside = OrderEcho.class.getDeclaredClasses();
        Check.holds("some twelve classes", inside.length <= 11);
        for (Class<?> c : inside) {
            Check.holds(c + " is static", Modifier.isStatic(c.getModifiers()) && !Modifier.isPublic(c.getModifiers()));
            int fields = 0;
            for (Field f : c.getDeclaredFields()) {
                fields += Modifier.isStatic(f.getModifiers()) ? 0 : 1;
                Check.holds(f + " is final if static", !Modifier.isStatic(f.getModifiers())
                    || Modifier.isFinal(f.getModifiers()));
            }
            Check.holds(c + " has few fields", fields <= 20);
            for (Method m : c.getDeclaredMethods()) {
                Check.holds(m + " has a name of its own", !names.contains(m.getName()));
                Check.holds(m + " takes few numbers", m.getParameterCount() <= 7);
            }
        }
    }

    private static void language() throws Exception {
        String text = Files.readString(Path.of(System.getProperty("class.source", "src/main/java/OrderEcho.java")));
        for (int i = 0; i < text.length(); i++) {
            Check.holds("sign " + i, text.charAt(i) < 128);
        }
        String code = text.replaceAll("(?s)/\\*.*?\\*/", "").replaceAll("//[^\n]*", "");
        String[] never = {"\\bthrow\\b", "\\btry\\b", "\\bcatch\\b", "\\bsynchronized\\b", "\\bassert\\b", "->", "::",
            "\\bimport\\b", "\\bpackage\\b", "\\bprotected\\b", "\\bException\\b", "Exact\\b", "\\bwhile\\b",
            "\\bdouble\\b", "\\bhashCode\\b", "\\btoString\\b", "\\bequals\\b", "System\\.(?!arraycopy)"};
        for (String word : never) {
            Check.holds("without " + word, !Pattern.compile(word).matcher(code).find());
        }
        longMethods(text);
    }

    /** A method begins and ends at the same depth of blanks. */
    private static void longMethods(String text) {
        Matcher m = Pattern.compile("(?m)^( {4}| {8})(?! )[^=;\n]*\\) \\{$").matcher(text);
        int found = 0;
        while (m.find()) {
            found++;
            int end = text.indexOf("\n" + m.group(1) + "}", m.end());
            long lines = text.substring(m.start(), end).lines().count();
            Check.holds(m.group().trim() + " is short", lines <= 60);
        }
        Check.holds("methods were found", found > 60);
    }

    private static long bytes() {
        if (ManagementFactory.getThreadMXBean() instanceof com.sun.management.ThreadMXBean bean) {
            return bean.getThreadAllocatedBytes(Thread.currentThread().getId());
        }
        return 0;
    }

    /** The room of a run is some 7.3 million fields and elements: an object takes a small part, and no call any. */
    private static void room() {
        long before = bytes();
        OrderEcho x = busy();
        Check.holds("an object is small", bytes() - before < 100000);
        dearCalls(x);
        before = bytes();
        for (int i = 0; i < 30; i++) {
            dearCalls(x);
        }
        Check.holds("calls make nothing", bytes() - before < 4000);
    }

    private static OrderEcho busy() {
        OrderEcho x = new OrderEcho();
        x.stage(0, 0, 6, 3, 9999);
        x.stage(1, 0, 6, 3, 0);
        for (int s = 2; s < 8; s++) {
            x.stage(3, 1, 6, 3, 0);
        }
        Check.rule(x, "min(max(stock-place*2,mean+seen),max(0,40-place))/(1+owed/(3+week))");
        for (int s = 0; s < 8; s++) {
            x.use(s, 0);
        }
        x.weeks(20, 9);
        x.straight(719, 1117, 5);
        return x;
    }

    private static void dearCalls(OrderEcho x) {
        x.worst(7, 0, 6, 0, 999);
        x.calmest(1, 8, 0x999, 3);
        x.level(1, 33, 1199);
        x.loud(30, 0);
        x.pole(0, 2, 1);
        x.chance(6, 12);
        x.steady(426886129255L, 4);
        x.weeks(1, 9);
        // With a fault, so that there is room for another rule and the tape is read each time.
        x.feed(0x28312B3229L, 5);
        x.feed(0x29L, 1);
        x.rule();
        x.worth(0, 3);
        x.gain(3, 20, 0);
    }

    /** No call throws, whatever the numbers: for each two of them on a new object and on one with weeks. */
    private static void strangeNumbers() {
        int[] odd = {Integer.MIN_VALUE, Integer.MIN_VALUE + 1, -101, -1, 0, 1, 7, 8, 100, 9999, Integer.MAX_VALUE};
        for (int i : odd) {
            for (int j : odd) {
                strangePair(new OrderEcho(), i, j);
                strangePair(busy(), i, j);
            }
        }
        Check.holds("nothing was thrown", true);
    }

    private static void strangePair(OrderEcho x, int i, int j) {
        long[] wide = {Long.MIN_VALUE, -1, 0, 0x6465, Long.MAX_VALUE};
        pairs(x, i, j);
        for (long w : wide) {
            x.feed(w, i);
            x.steady(w, i);
            x.calm(i, j, w, w, 4);
            x.calm(0, 7, w, ~w, i);
            x.calmest(i, j, w, 3);
            x.calmest(0, 7, w, j);
            x.gets(i, 5, w, j, j);
            x.gets(0, i, w, j, 1);
        }
    }

    private static void pairs(OrderEcho x, int i, int j) {
        x.stage(i, j, 1, 1, 1);
        x.stage(1, 0, i, j, 1);
        x.stage(1, 0, 1, 1, i);
        x.set(i, j, 1);
        x.set(0, 1, i);
        x.use(i, j);
        x.allot(i);
        x.about(i, j);
        x.place(i);
        x.slot(i, j);
        x.owed(i, j);
        x.cost(i);
        x.kept(i);
        x.demand(i, j);
        x.weeks(i, j);
        x.rule();
        x.worth(i, j);
        x.swing(i, 1, j);
        x.swing(0, i, j);
        x.gain(i, j, 0);
        x.gain(0, j, i);
        x.straight(i, j, 1);
        x.straight(101, j, i);
        x.echo(i, j);
        x.pole(i, j, 0);
        x.pole(0, 0, i);
        x.loud(i, j);
        x.chances(i);
        x.chance(i, j);
        x.level(1, i, j);
        x.level(i, 11, 1101);
        x.levelCost(i, 11, 1101, j);
        x.levelCost(1, i, j, 0);
        x.worst(i, j, 1, 0, 1);
        x.worst(7, 0, 1, i, j);
        x.worst(7, 0, i, 0, j);
        x.worstAt(i);
        x.count(i);
    }
}
