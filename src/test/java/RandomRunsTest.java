import java.util.ArrayList;
import java.util.List;
import java.util.Random;

/** Seeded runs of calls on FadeJoiner and on PlainJoiner side by side: every answer must be the same. */
public final class RandomRunsTest {
    // A call, how often it is drawn, then the least and the greatest that each argument usually is.
    private static final String[] CALLS = {
        "word 2 0 7 0 31", "whole 2 0 2047", "bits 2 0 2047", "place 3 0 47", "sent 4 0 3 1 60 0 59", "covers 3 0 15 1 60",
        "lacks 3 0 15 1 60", "between 3 0 2047 0 2047 0 15 1 60", "distance 3 0 15 1 60 0 3", "shortest 1 0 15 1 60",
        "versions 2 1 60 1 30", "weak 1 0 2047 0 3 1 60",
        "link 1 1 8 1 4 1 20 1 8 16 48", "limit 2 1 300", "fade 3 0 60", "offer 60 0 31", "send 90 0 3 1 60 -1 3",
        "answer 60 0 3 0 2", "burst 12 0 3 0 3 0 1 0 3", "tick 10 1 8", "report 12", "run 3 -99999 99999 1 60 1 60 0 127",
        "drain 4", "drained 6 0 12", "worst 3 0 3 0 1",
        "process 10 0 3 0 5", "kept 6 0 7 0 1", "again 4 0 3", "waiting 4 0 5", "next 6 0 3 1 60", "enough 6 0 3 1 60 1 60",
        "soft 6 0 3 0 38", "heard 6 0 3 0 2", "best 6 0 3", "sum 6 0 3 0 2047", "margin 5 0 3", "second 5 0 3",
        "lean 5 0 3 0 10", "ties 6 0 3 0 1", "rank 5 0 3 0 2047", "listed 5 0 3 0 255", "against 4 0 3 0 2047",
        "known 5 0 3 0 1", "wrong 5 0 3", "stored 5 0 7", "gaps 6 0 2", "given 5 0 9", "would 6 0 7 0 1",
        "tray 6 0 3 0 60", "write 20 0 3 0 40 -128 127", "lists 4 0 3 0 3", "image 3 0 1", "restore 3 0 1", "count 20 0 19",
    };
    // A run stops short of the calls that an object is good for, so that its state can be looked at.
    private static final int LONGEST_RUN = 400;

    private final Random random;
    private final FadeJoiner joiner = new FadeJoiner();
    private final PlainJoiner plain = new PlainJoiner();
    private final List<Script.Call> calls = new ArrayList<>();
    private final List<String> log = new ArrayList<>();

    private RandomRunsTest(long seed) {
        random = new Random(seed);
    }

    public static void main(String[] args) {
        int runs = args.length > 0 ? Integer.parseInt(args[0]) : 600;
        long from = args.length > 1 ? Long.parseLong(args[1]) : 0;
        for (long seed = from; seed < from + runs; seed++) {
            RandomRunsTest run = new RandomRunsTest(seed);
            if (!run.goes()) {
                System.out.println("seed " + seed + ": " + String.join("; ", run.log));
                System.exit(1);
            }
        }
        System.out.println(runs + " random runs are as the plain model's");
    }

    private boolean goes() {
        // Some runs stay on what is at first, others begin on a link of their own.
        if (random.nextInt(3) > 0 && !same("link", among(1, 8), among(1, 4), among(1, 15), among(1, 8), among(16, 48))) {
            return false;
        }
        int total = 0;
        for (String row : CALLS) {
            total += Integer.parseInt(row.split(" ")[1]);
        }
        for (int n = 1; calls.size() < LONGEST_RUN; n++) {
            boolean as = random.nextInt(16) == 0 && calls.size() < LONGEST_RUN - 62 ? craftedBurst() : drawnCall(random.nextInt(total));
            if (!as || n % 50 == 0 && !sameState()) {
                return false;
            }
        }
        return sameState();
    }

    private int among(int low, int high) {
        return low + random.nextInt(high - low + 1);
    }

    private boolean drawnCall(int at) {
        int left = at;
        for (String row : CALLS) {
            String[] parts = row.split(" ");
            left -= Integer.parseInt(parts[1]);
            if (left < 0) {
                int[] args = new int[(parts.length - 2) / 2];
                for (int i = 0; i < args.length; i++) {
                    args[i] = argument(Integer.parseInt(parts[2 + 2 * i]), Integer.parseInt(parts[3 + 2 * i]));
                }
                return same(parts[0], args);
            }
        }
        return true;
    }

    private int argument(int low, int high) {
        switch (random.nextInt(60)) {
            case 0: return low - 1;
            case 1: return high + 1;
            case 2: return low;
            case 3: return high;
            case 4: return random.nextInt(20) == 0 ? random.nextInt() : low;
            default: return among(low, high);
        }
    }

    /** A BLOCK from elsewhere, more or less clean, near the EXPECTED SN. */
    private boolean craftedBurst() {
        int tray = random.nextInt(4);
        int version = random.nextInt(4);
        int sn = (plain.count(4) + random.nextInt(5)) & 7;
        boolean[] bits = PlainJoiner.CODE[PlainJoiner.wordOf(sn, random.nextInt(32))];
        int[] row = PlainJoiner.row(plain.count(17), version, among(15, 60));
        boolean as = same("tray", tray, row.length);
        int noise = random.nextInt(30);
        for (int i = 0; i < row.length; i++) {
            as &= same("write", tray, i, (bits[row[i]] ? 10 : -10) + among(-noise, noise));
        }
        return as && same("burst", random.nextInt(plain.count(15)), version, random.nextInt(2), tray);
    }

    private boolean same(String name, int... args) {
        Script.Call call = new Script.Call(name, args, ' ', 0);
        calls.add(call);
        return note(call, Script.ask(joiner, call), Script.askPlain(plain, call));
    }

    private boolean note(Script.Call call, long got, long due) {
        log.add(call + " = " + got + (got == due ? "" : " BUT DUE IS " + due));
        return got == due;
    }

    /** Looks at all there is, on new objects that have had the same calls; the plain one has no end of calls. */
    private boolean sameState() {
        long[] got = Script.answers(calls, Script.LINK, Script.MOST_CALLS - calls.size());
        for (int i = 0; i < got.length; i++) {
            Script.Call look = Script.LINK.looks().get(i);
            long due = Script.askPlain(plain, look);
            if (got[i] != due) {
                return note(look, got[i], due);
            }
        }
        return true;
    }
}
