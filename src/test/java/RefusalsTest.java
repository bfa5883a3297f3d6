import java.util.ArrayList;
import java.util.List;

/**
 * Every call by every mix of arguments at, and just beyond, both ends of what the document allows: the code is the one
 * that the call tells first, nothing changes, and no argument within its ends is refused.
 */
public final class RefusalsTest {
    // A call; then of each argument the least and the greatest that can be, and the code of others. P: the last PROCESS.
    // In all of these the call tells -2 ahead of -3 and of -7.
    private static final String[] CALLS = {
        "word 0 7 -3 0 31 -3", "whole 0 2047 -3", "bits 0 2047 -3", "place 0 29 -2", "sent 0 3 -2 1 60 -3 0 MAX -3",
        "covers 0 15 -3 1 60 -3", "lacks 0 15 -3 1 60 -3", "between 0 2047 -3 0 2047 -3 0 15 -3 1 60 -3",
        "distance 0 15 -3 1 60 -3 0 3 -2", "shortest 0 15 -3 1 60 -3", "versions 1 60 -3 1 60 -3", "weak 0 2047 -3 0 3 -2 1 60 -3",
        "link 1 8 -3 1 4 -3 1 60 -3 1 8 -3 16 48 -3", "limit 1 9999 -3", "fade 0 60 -3", "offer 0 31 -3",
        "send 0 P -2 1 60 -3 -1 3 -2", "answer 0 P -2 0 2 -3", "burst 0 P -2 0 3 -2 0 1 -2 0 3 -2", "tick 1 60 -3",
        "run MIN MAX -3 1 60 -3 1 60 -3 0 127 -3", "drained 0 MAX -3", "worst 0 3 -3 0 1 -2",
        "process 0 P -2 0 5 -2", "kept 0 7 -2 0 1 -2", "again 0 MAX -3", "waiting 0 MAX -3", "next 0 P -2 1 60 -3",
        "enough 0 P -2 1 60 -3 1 60 -3", "soft 0 P -2 0 38 -7", "heard 0 P -2 0 2 -2", "best 0 P -2", "sum 0 P -2 0 2047 -3",
        "margin 0 P -2", "second 0 P -2", "lean 0 P -2 0 10 -3", "ties 0 P -2 0 1 -2", "rank 0 P -2 0 2047 -3", "listed 0 P -2 0 255 -3",
        "against 0 P -2 0 2047 -3", "known 0 P -2 0 1 -2", "wrong 0 P -2", "stored 0 7 -7", "gaps 0 2 -2", "given 0 MAX -3",
        "would 0 7 -2 0 1 -2", "tray 0 3 -2 0 60 -3", "write 0 3 -2 0 4 -7 MIN MAX -3", "lists 0 3 -2 0 P -2", "image 0 1 -2", "restore 0 1 -2",
    };
    private static final int BATCH = 150;

    private RefusalsTest() {
    }

    public static void main(String[] args) {
        for (int processes : new int[] {1, 4, 8}) {
            List<Script.Call> ahead = Script.read(state(processes));
            for (String row : CALLS) {
                holds(row.replace("P", "" + (processes - 1)).split(" "), ahead, processes);
            }
        }
        Script.finish();
    }

    /** Much has come and gone, all SOFT are there, all TRAYS have five bytes, both IMAGES are made. */
    private static String state(int processes) {
        StringBuilder rows = new StringBuilder("link(" + processes + ", 3, 9, 2, 30); limit(77); image(0)\n");
        for (int tray = 0; tray < 4; tray++) {
            rows.append("fill(" + tray + ", 5, " + (3 - 20 * tray) + ")\n");
        }
        rows.append(Script.each("offer(%d)", 9) + "send(0, 20, NONE); run(9, 20, 39, 50); image(1); come(0, 0, 1, 5); fill(3, 5, 9)\n");
        for (int p = 0; p < processes; p++) {
            rows.append("burst(" + p + ", 1, 1, 1)\n");
        }
        return rows + "offer(30); tick(2); fade(0); send(0, 7, NONE); limit(55)";
    }

    private static void holds(String[] row, List<Script.Call> ahead, int processes) {
        String sentence = row[0] + ", of " + processes + " PROCESSES: of several the code that the call tells first";
        Script.oneMore();
        List<Script.Call> refused = new ArrayList<>();
        List<Script.Call> allowed = new ArrayList<>();
        gather(row, new int[row.length / 3], 0, 0, refused, allowed);
        for (int from = 0; from < refused.size(); from += BATCH) {
            List<Script.Call> batch = refused.subList(from, Math.min(from + BATCH, refused.size()));
            FadeJoiner joiner = ahead(ahead);
            for (Script.Call call : batch) {
                long got = Script.ask(joiner, call);
                if (got != call.due()) {
                    Script.fail(sentence, call + ": " + got + ", due is " + call.due());
                }
            }
            Script.stays(sentence, ahead, batch);
        }
        for (Script.Call call : allowed) {
            long got = Script.ask(ahead(ahead), call);
            long code = got - base(row[0]);
            if (code == -2 || code == -3 || code == -7) {
                Script.fail(sentence, call + ": " + got + ", though each argument can be");
            }
        }
    }

    private static FadeJoiner ahead(List<Script.Call> calls) {
        FadeJoiner joiner = new FadeJoiner();
        for (Script.Call call : calls) {
            Script.ask(joiner, call);
        }
        return joiner;
    }

    private static int base(String name) {
        return name.equals("write") ? -1000 : name.equals("soft") || name.equals("sum") || name.equals("lean") ? -99000000 : 0;
    }

    /** All mixes of arguments from one on; code: the one that is due by those ahead of it, or 0. */
    private static void gather(String[] row, int[] args, int at, int code, List<Script.Call> refused, List<Script.Call> allowed) {
        if (at == args.length) {
            (code == 0 ? allowed : refused).add(new Script.Call(row[0], args.clone(), code == 0 ? ' ' : '!', base(row[0]) + code));
            return;
        }
        long low = number(row[1 + 3 * at]);
        long high = number(row[2 + 3 * at]);
        for (long value : new long[] {Integer.MIN_VALUE, low - 1, low, high, high + 1, Integer.MAX_VALUE}) {
            boolean fits = value >= low && value <= high;
            // Numbers beyond an int's ends can't be asked, and the ends themselves are asked just once.
            if (value != (int) value || fits && value != low && value != high) {
                continue;
            }
            args[at] = (int) value;
            int own = fits ? 0 : (int) number(row[3 + 3 * at]);
            gather(row, args, at + 1, code == 0 || own == 0 ? code + own : Math.max(code, own), refused, allowed);
        }
    }

    private static long number(String text) {
        return text.equals("MIN") ? Integer.MIN_VALUE : text.equals("MAX") ? Integer.MAX_VALUE : Long.parseLong(text);
    }
}
