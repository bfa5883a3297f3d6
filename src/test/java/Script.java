import java.lang.reflect.InvocationTargetException;
import java.lang.reflect.Method;
import java.util.ArrayList;
import java.util.Arrays;
import java.util.HashMap;
import java.util.List;
import java.util.Map;
import java.util.regex.Matcher;
import java.util.regex.Pattern;

/**
 * A sentence of the document and rows of calls that hold it, on a new FadeJoiner and on a new PlainJoiner:
 *
 * <pre>
 *   offer(3) = 1                          the answer is 1
 *   offer(32) ! -3                        it is refused by -3 and changes nothing
 *   send(0, 39, NONE)                     the answer isn't looked at
 *   lay(tray, word, version, n, s)        a TRAY has the n clean values of a WORD, of a strength s (ROOM 48)
 *   fill(tray, n, v)                      a TRAY has n bytes v
 *   come(p, toggle, sn, load)             a BLOCK from elsewhere COMES by TRAY 3, its PROCESS didn't see that TOGGLE
 * </pre>
 *
 * Rows are parted by line ends and ';'. What stands behind '#' is a remark. No object is called more than 512 times.
 */
final class Script {
    static final int MOST_CALLS = 512;
    private static final Pattern ROW = Pattern.compile("(\\w+)\\(([^)]*)\\)\\s*(?:([=!])\\s*(-?\\w+))?");
    private static final Map<String, Method> JOINER = methods(FadeJoiner.class);
    private static final Map<String, Method> PLAIN = methods(PlainJoiner.class);
    static final View LINK = new View(List.of(), read(looksAtLink()));
    private static final List<View> PORTRAIT = portrait();
    private static int edges = 0;
    private static int wrong = 0;

    private Script() {
    }

    /** A call with what is due: a kind of '=', '!' or ' ' (the answer isn't looked at). */
    record Call(String name, int[] args, char kind, long due) {
        @Override
        public String toString() {
            return name + Arrays.toString(args).replace('[', '(').replace(']', ')');
        }
    }

    static void edge(String sentence, String rows) {
        oneMore();
        List<Call> calls = read(rows);
        if (calls.size() > MOST_CALLS) {
            fail(sentence, "has " + calls.size() + " calls");
            return;
        }
        FadeJoiner joiner = new FadeJoiner();
        PlainJoiner plain = new PlainJoiner();
        for (int i = 0; i < calls.size(); i++) {
            Call call = calls.get(i);
            long got = ask(JOINER, joiner, call);
            long model = ask(PLAIN, plain, call);
            if (call.kind == ' ') {
                continue;
            }
            if (got != call.due || model != call.due) {
                fail(sentence, "call " + (i + 1) + ", " + call + ": " + got + ", the model " + model + ", due is " + call.due);
            }
            if (call.kind == '!') {
                stays(sentence, calls.subList(0, i), List.of(call));
            }
        }
    }

    /** That some calls behind others change nothing: whatever is looked at is the same without them. */
    static void stays(String sentence, List<Call> ahead, List<Call> refused) {
        List<Call> with = new ArrayList<>(ahead);
        with.addAll(refused);
        compare(sentence, ahead, with, "behind " + refused);
    }

    /** That two runs of calls lead to the same. */
    static void alike(String sentence, String rows, String others) {
        oneMore();
        compare(sentence, read(others), read(rows), "at the end");
    }

    private static void compare(String sentence, List<Call> one, List<Call> other, String where) {
        int most = MOST_CALLS - Math.max(one.size(), other.size());
        if (most < 60) {
            fail(sentence, "leaves too few calls to look at all " + where);
            return;
        }
        for (View view : PORTRAIT) {
            long[] due = answers(one, view, most);
            long[] got = answers(other, view, most);
            int at = Arrays.mismatch(due, got);
            if (at >= 0) {
                fail(sentence, view.opening + " " + view.looks.get(at) + " " + where + ": " + got[at] + ", due is " + due[at]);
                return;
            }
        }
    }

    static void oneMore() {
        edges++;
    }

    static void fail(String sentence, String what) {
        wrong++;
        System.out.println("\"" + sentence + "\": " + what);
    }

    static void finish() {
        System.out.println(edges + " edges" + (wrong == 0 ? " hold" : ", " + wrong + " answers are not as due"));
        System.exit(wrong == 0 ? 0 : 1);
    }

    static List<Call> read(String rows) {
        List<Call> calls = new ArrayList<>();
        for (String line : rows.split("\n")) {
            for (String row : line.replaceAll("#.*", "").split(";")) {
                if (!row.isBlank()) {
                    readRow(row.trim(), calls);
                }
            }
        }
        return calls;
    }

    private static void readRow(String row, List<Call> calls) {
        Matcher m = ROW.matcher(row);
        if (!m.matches()) {
            throw new IllegalArgumentException("no row: " + row);
        }
        String[] texts = m.group(2).isBlank() ? new String[0] : m.group(2).split(",");
        int[] args = new int[texts.length];
        for (int i = 0; i < args.length; i++) {
            args[i] = (int) number(texts[i].trim());
        }
        char kind = m.group(3) == null ? ' ' : m.group(3).charAt(0);
        long due = kind == ' ' ? 0 : number(m.group(4));
        switch (m.group(1)) {
            case "lay" -> lay(calls, args[0], PlainJoiner.CODE[args[1]], PlainJoiner.row(48, args[2], args[3]), args[4]);
            case "fill" -> {
                calls.add(new Call("tray", new int[] {args[0], args[1]}, ' ', 0));
                for (int i = 0; i < args[1]; i++) {
                    calls.add(new Call("write", new int[] {args[0], i, args[2]}, ' ', 0));
                }
            }
            case "come" -> {
                // STREAM 0 alone, the 13 values that VERSION 0 begins with in every ROOM.
                lay(calls, 3, PlainJoiner.CODE[PlainJoiner.wordOf(args[2], args[3])], PlainJoiner.row(48, 0, 13), 9);
                calls.add(new Call("burst", new int[] {args[0], 0, args[1], 3}, '=', 1));
            }
            default -> calls.add(new Call(m.group(1), args, kind, due));
        }
    }

    private static void lay(List<Call> calls, int tray, boolean[] bits, int[] row, int strength) {
        calls.add(new Call("tray", new int[] {tray, row.length}, ' ', 0));
        for (int i = 0; i < row.length; i++) {
            calls.add(new Call("write", new int[] {tray, i, bits[row[i]] ? strength : -strength}, ' ', 0));
        }
    }

    private static long number(String text) {
        return switch (text) {
            case "NONE" -> FadeJoiner.NONE;
            case "MIN" -> Integer.MIN_VALUE;
            case "MAX" -> Integer.MAX_VALUE;
            default -> Long.parseLong(text);
        };
    }

    static long ask(FadeJoiner joiner, Call call) {
        return ask(JOINER, joiner, call);
    }

    static long askPlain(PlainJoiner plain, Call call) {
        return ask(PLAIN, plain, call);
    }

    private static long ask(Map<String, Method> methods, Object object, Call call) {
        Method method = methods.get(call.name);
        if (method == null) {
            throw new IllegalArgumentException("no call: " + call);
        }
        Object[] args = new Object[call.args.length];
        for (int i = 0; i < args.length; i++) {
            args[i] = call.args[i];
        }
        try {
            return ((Number) method.invoke(object, args)).longValue();
        } catch (IllegalAccessException | InvocationTargetException e) {
            throw new IllegalStateException(call + " threw", e);
        }
    }

    private static Map<String, Method> methods(Class<?> type) {
        Map<String, Method> methods = new HashMap<>();
        for (Method method : type.getDeclaredMethods()) {
            method.setAccessible(true);
            methods.put(method.getName(), method);
        }
        return methods;
    }

    /** Looks at an object, behind calls that open it up. */
    record View(List<Call> opening, List<Call> looks) {
    }

    /** What the looks of a view answer behind some calls; a new object whenever one has had so many calls more. */
    static long[] answers(List<Call> calls, View view, int most) {
        long[] told = new long[view.looks.size()];
        FadeJoiner joiner = null;
        int left = 0;
        for (int i = 0; i < told.length; i++) {
            if (left <= 0) {
                joiner = new FadeJoiner();
                for (Call call : calls) {
                    ask(JOINER, joiner, call);
                }
                for (Call call : view.opening) {
                    ask(JOINER, joiner, call);
                }
                left = most - view.opening.size();
            }
            told[i] = ask(JOINER, joiner, view.looks.get(i));
            left--;
        }
        return told;
    }

    /** All that can be seen of an object: THE LINK, both IMAGES, each TRAY, and how it goes on. */
    private static List<View> portrait() {
        List<View> views = new ArrayList<>();
        views.add(LINK);
        views.add(new View(read("restore(0)"), LINK.looks));
        views.add(new View(read("restore(1)"), LINK.looks));
        for (int tray = 0; tray < 4; tray++) {
            // Writing tells where a TRAY ends, hearing it what is in it.
            views.add(new View(List.of(), read(each("write(" + tray + ", %d, 0)", 61))));
            views.add(new View(read("link(1, 1, 1, 1, 48); burst(0, 0, 0, " + tray + ")"), read(each("soft(0, %d)", 39))));
            views.add(new View(read("link(1, 1, 1, 1, 16); burst(0, 1, 0, " + tray + ")"), read(each("soft(0, %d)", 13))));
        }
        views.add(new View(List.of(), read(each("answer(%d, 0)", 8) + each("count(%d)", 20))));
        views.add(new View(read("fade(20); offer(1); offer(2); run(1, 60, 20, 9); run(2, 60, 39, 30)"), LINK.looks));
        return views;
    }

    private static String looksAtLink() {
        StringBuilder looks = new StringBuilder(each("count(%d)", 20) + each("again(%d)", 5) + each("waiting(%d)", 20));
        for (int p = 0; p < 8; p++) {
            looks.append(each("process(" + p + ", %d)", 6)).append(each("heard(" + p + ", %d)", 3));
            looks.append(each("soft(" + p + ", %d)", 39)).append("next(" + p + ", 7)\n");
        }
        for (int what = 0; what < 2; what++) {
            looks.append(each("kept(%d, " + what + ")", 8)).append(each("would(%d, " + what + ")", 8));
        }
        return looks + each("stored(%d)", 8) + each("given(%d)", 30) + "given(255)\n" + each("gaps(%d)", 3) + "drain()\n";
    }

    /** A row for each number from 0 on. */
    static String each(String row, int many) {
        StringBuilder rows = new StringBuilder();
        for (int n = 0; n < many; n++) {
            rows.append(row.replace("%d", "" + n)).append('\n');
        }
        return rows.toString();
    }
}
