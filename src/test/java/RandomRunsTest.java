import java.lang.reflect.Method;
import java.util.ArrayList;
import java.util.HashMap;
import java.util.List;
import java.util.Map;
import java.util.Random;

/** Seeded runs of calls on FadeJoiner and on PlainJoiner side by side: every answer must be the same. */
public final class RandomRunsTest {
    // A call, how often it is drawn, then the least and the greatest that each argument usually is.
    private static final String[] CALLS = {
        "word 2 0 7 0 31", "whole 2 0 2047", "bits 2 0 2047", "place 3 0 47", "sent 4 0 3 1 60 0 59", "covers 3 0 15 1 60",
        "lacks 3 0 15 1 60", "between 3 0 2047 0 2047 0 15 1 60", "distance 3 0 15 1 60 0 3", "shortest 1 0 15 1 60",
        "versions 2 1 60 1 30", "weak 1 0 2047 0 3 1 60",
        "link 1 1 8 1 4 1 20 1 8 16 48", "limit 2 1 300", "fade 3 0 60", "offer 60 0 31", "send 90 0 3 1 60 -1 3",
        "answer 60 0 3 0 2", "burst 12 0 3 0 3 0 1 0 3", "tick 10 1 8", "report 12", "run 3 -99999 99999 1 60 1 60 0 127",
        "drain 4", "drained 6 0 12", "worst 3 0 3 0 1",
        "process 10 0 3 0 5", "kept 6 0 7 0 1", "again 4 0 3", "waiting 4 0 5", "next 6 0 3 1 60", "enough 6 0 3 1 60 1 60",
        "soft 6 0 3 0 38", "heard 6 0 3 0 2", "best 6 0 3", "sum 6 0 3 0 2047", "margin 5 0 3", "second 5 0 3",
        "lean 5 0 3 0 10", "ties 6 0 3 0 1", "rank 5 0 3 0 2047", "listed 5 0 3 0 255", "against 4 0 3 0 2047",
        "known 5 0 3 0 1", "wrong 5 0 3", "stored 5 0 7", "gaps 6 0 2", "given 5 0 9", "would 6 0 7 0 1",
        "tray 6 0 3 0 60", "write 20 0 3 0 40 -128 127", "lists 4 0 3 0 3", "image 3 0 1", "restore 3 0 1", "count 20 0 19",
    };

    private final Random random;
    private final FadeJoiner joiner = new FadeJoiner();
    private final PlainJoiner plain = new PlainJoiner();
    private final List<String> log = new ArrayList<>();
    private static final Map<String, Method> FAST = new HashMap<>();
    private static final Map<String, Method> SLOW = new HashMap<>();

    private RandomRunsTest(long seed) {
        random = new Random(seed);
    }

    public static void main(String[] args) throws Exception {
        for (Method m : FadeJoiner.class.getDeclaredMethods()) {
            FAST.put(m.getName(), m);
        }
        for (Method m : PlainJoiner.class.getDeclaredMethods()) {
            m.setAccessible(true);
            SLOW.put(m.getName(), m);
        }
        int runs = args.length > 0 ? Integer.parseInt(args[0]) : 150;
        long from = args.length > 1 ? Long.parseLong(args[1]) : 0;
        for (long seed = from; seed < from + runs; seed++) {
            RandomRunsTest run = new RandomRunsTest(seed);
            if (!run.goes()) {
                System.out.println("seed " + seed + ": " + String.join("; ", run.log));
                System.exit(1);
            }
        }
        System.out.println(runs + " random runs are as the plain model's");
    }

    private boolean goes() throws Exception {
        // Some runs stay on what is at first, others begin on a link of their own.
        if (random.nextInt(3) > 0 && !same("link", among(1, 8), among(1, 4), among(1, 15), among(1, 8), among(16, 48))) {
            return false;
        }
        int total = 0;
        for (String row : CALLS) {
            total += Integer.parseInt(row.split(" ")[1]);
        }
        for (int n = 0; n < 250; n++) {
            boolean as = random.nextInt(12) == 0 ? craftedBurst() : drawnCall(random.nextInt(total));
            if (!as || n % 25 == 0 && !sameState()) {
                return false;
            }
        }
        return sameState();
    }

    private int among(int low, int high) {
        return low + random.nextInt(high - low + 1);
    }

    private boolean drawnCall(int at) throws Exception {
        int left = at;
        for (String row : CALLS) {
            String[] parts = row.split(" ");
            left -= Integer.parseInt(parts[1]);
            if (left < 0) {
                int[] args = new int[(parts.length - 2) / 2];
                for (int i = 0; i < args.length; i++) {
                    args[i] = argument(Integer.parseInt(parts[2 + 2 * i]), Integer.parseInt(parts[3 + 2 * i]));
                }
                return same(parts[0], args);
            }
        }
        return true;
    }

    private int argument(int low, int high) {
        switch (random.nextInt(60)) {
            case 0: return low - 1;
            case 1: return high + 1;
            case 2: return low;
            case 3: return high;
            case 4: return random.nextInt(20) == 0 ? random.nextInt() : low;
            default: return among(low, high);
        }
    }

    /** A BLOCK from elsewhere, more or less clean, near the EXPECTED SN. */
    private boolean craftedBurst() throws Exception {
        int tray = random.nextInt(4);
        int length = among(20, 60);
        int version = random.nextInt(4);
        int sn = (joiner.count(4) + random.nextInt(5)) & 7;
        long bits = joiner.bits(joiner.word(sn, random.nextInt(32)));
        boolean as = same("tray", tray, length);
        int noise = random.nextInt(30);
        for (int i = 0; i < length; i++) {
            int clean = (bits >> joiner.sent(version, length, i) & 1) == 1 ? 10 : -10;
            as &= same("write", tray, i, clean + among(-noise, noise));
        }
        return as && same("burst", random.nextInt(joiner.count(15)), version, random.nextInt(2), tray);
    }

    private boolean same(String name, int... args) throws Exception {
        Object[] boxed = new Object[args.length];
        StringBuilder text = new StringBuilder(name + "(");
        for (int i = 0; i < args.length; i++) {
            boxed[i] = args[i];
            text.append(i > 0 ? ", " : "").append(args[i]);
        }
        long got = ((Number) FAST.get(name).invoke(joiner, boxed)).longValue();
        long due = ((Number) SLOW.get(name).invoke(plain, boxed)).longValue();
        log.add(text + ") = " + got + (got == due ? "" : " BUT DUE IS " + due));
        return got == due;
    }

    private boolean sameState() throws Exception {
        int mark = log.size();
        boolean as = true;
        for (int what = 0; what < 21; what++) {
            as &= same("count", what);
        }
        for (int p = 0; p < 8; p++) {
            for (int what = 0; what < 6; what++) {
                as &= same("process", p, what) & same("heard", p, what);
            }
            for (int bit = 0; bit < 39; bit++) {
                as &= same("soft", p, bit);
            }
            as &= same("best", p) & same("kept", p, 0) & same("kept", p, 1) & same("stored", p) & same("again", p);
            as &= same("would", p, 0) & same("would", p, 1);
        }
        for (int i = 0; i < 21; i++) {
            as &= same("waiting", i) & same("given", i) & same("drained", i);
        }
        as &= same("gaps", 0) & same("gaps", 1) & same("gaps", 2) & same("drain");
        if (as) {
            log.subList(mark, log.size()).clear();
        }
        return as;
    }
}
