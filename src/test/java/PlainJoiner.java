import java.util.ArrayList;
import java.util.Arrays;
import java.util.List;

/**
 * The document said over again in the slowest and most literal way, to hold FadeJoiner against: every WORD is tried,
 * every SENDING is walked place by place, every pair of WHOLE WORDS is compared, nothing is shared with the class.
 */
final class PlainJoiner {
    static final int NONE = -1;
    static final boolean[][] CODE = new boolean[2048][39];
    private static final List<Integer> WHOLE = new ArrayList<>();
    private static final int[] PLACE = new int[48];

    static {
        for (int w = 0; w < 2048; w++) {
            for (int t = 0; t < 13; t++) {
                int b = stepBit(w, t);
                int p = stepBit(w, t - 1);
                int q = stepBit(w, t - 2);
                CODE[w][t] = b == 1;
                CODE[w][13 + t] = (b + p + q) % 2 == 1;
                CODE[w][26 + t] = (b + q) % 2 == 1;
            }
            if (restOf(w) == 5) {
                WHOLE.add(w);
            }
        }
        int[][] read = new int[3][];
        for (int s = 0; s < 3; s++) {
            int[][] rows = new int[4][4];
            for (int n = 0; n < 16; n++) {
                rows[n / 4][n % 4] = n < 3 ? NONE : 13 * s + n - 3;
            }
            read[s] = new int[16];
            int at = 0;
            for (int column : new int[] {0, 2, 1, 3}) {
                for (int row = 0; row < 4; row++) {
                    read[s][at++] = rows[row][column];
                }
            }
        }
        for (int n = 0; n < 16; n++) {
            PLACE[n] = read[0][n];
            PLACE[16 + 2 * n] = read[1][n];
            PLACE[17 + 2 * n] = read[2][n];
        }
    }

    private static int stepBit(int word, int t) {
        return t < 0 || t > 10 ? 0 : word / (1 << (10 - t)) % 2;
    }

    private static int restOf(int word) {
        int left = word;
        while (left > 7) {
            int high = Integer.highestOneBit(left);
            left ^= 0b1011 * (high / 8);
        }
        return left;
    }

    /** All of THE LINK. */
    private static final class State {
        int processes = 4, window = 4, wait = 12, tries = 4, room = 48, limit = 500, fade = 20;
        List<Integer> loads = new ArrayList<>();
        int next, base, dropped, resets;
        Integer[] keptLoad = new Integer[8];
        boolean[] confirmed = new boolean[8];
        List<Integer> again = new ArrayList<>();
        int[] sn = new int[8];
        int[] toggle = new int[8];
        int[] tried = new int[8];
        boolean[] asked = new boolean[8];
        boolean[] reached = new boolean[8];
        List<List<int[]>> sendings = new ArrayList<>();
        int[] saw = new int[8];
        int[][] soft = new int[8][39];
        int[] bursts = new int[8];
        boolean[] has = new boolean[8];
        int expected, lost, late, twice, repeated, timer;
        boolean runs;
        int mark;
        Integer[] shelf = new Integer[8];
        List<Integer> given = new ArrayList<>();

        State() {
            Arrays.fill(sn, NONE);
            Arrays.fill(saw, NONE);
            for (int p = 0; p < 8; p++) {
                sendings.add(new ArrayList<>());
            }
        }

        State copy() {
            State c = new State();
            c.processes = processes; c.window = window; c.wait = wait; c.tries = tries; c.room = room;
            c.limit = limit; c.fade = fade;
            c.loads = new ArrayList<>(loads);
            c.next = next; c.base = base; c.dropped = dropped; c.resets = resets;
            c.keptLoad = keptLoad.clone(); c.confirmed = confirmed.clone();
            c.again = new ArrayList<>(again);
            c.sn = sn.clone(); c.toggle = toggle.clone(); c.tried = tried.clone();
            c.asked = asked.clone(); c.reached = reached.clone();
            c.sendings = new ArrayList<>();
            for (List<int[]> row : sendings) {
                c.sendings.add(new ArrayList<>(row));
            }
            c.saw = saw.clone(); c.bursts = bursts.clone(); c.has = has.clone();
            for (int p = 0; p < 8; p++) {
                c.soft[p] = soft[p].clone();
            }
            c.expected = expected; c.lost = lost; c.late = late; c.twice = twice; c.repeated = repeated;
            c.timer = timer; c.runs = runs; c.mark = mark;
            c.shelf = shelf.clone();
            c.given = new ArrayList<>(given);
            return c;
        }

        // ---- the sender

        boolean canSend(int p) {
            if (asked[p]) {
                return false;
            }
            if (sn[p] != NONE) {
                return true;
            }
            return !again.isEmpty() || !loads.isEmpty() && (next - base + 8) % 8 < window;
        }

        int transmit(int p, int length, int[] noise, boolean passes) {
            if (sn[p] == NONE) {
                toggle[p] = toggle[p] == 0 ? 1 : 0;
                tried[p] = 0;
                sendings.get(p).clear();
                if (!again.isEmpty()) {
                    sn[p] = again.remove(0);
                } else {
                    sn[p] = next;
                    keptLoad[next] = loads.remove(0);
                    confirmed[next] = false;
                    next = next == 7 ? 0 : next + 1;
                }
            }
            int version = new int[] {0, 2, 3, 1}[tried[p] % 4];
            tried[p]++;
            asked[p] = true;
            sendings.get(p).add(new int[] {version, length});
            reached[p] = passes && fade != 0;
            if (!reached[p]) {
                return NONE;
            }
            boolean[] bits = CODE[wordOf(sn[p], keptLoad[sn[p]])];
            int[] row = row(room, version, length);
            int[] values = new int[length];
            for (int i = 0; i < length; i++) {
                int v = (bits[row[i]] ? fade : -fade) + noise[i];
                values[i] = v < -127 ? -127 : v > 127 ? 127 : v;
            }
            return hear(p, toggle[p], row, values);
        }

        int readAnswer(int p, int how) {
            int read = reached[p] ? (has[p] ? 1 : 0) : NONE;
            if (how == 2) {
                read = NONE;
            } else if (how == 1) {
                read = read == 1 ? 0 : 1;
            }
            asked[p] = false;
            if (read == 1) {
                sn[p] = NONE;
            } else if (tried[p] == tries) {
                sn[p] = NONE;
                dropped++;
            }
            return read;
        }

        void reportComes() {
            int toExpected = (expected - base + 8) % 8;
            int toNext = (next - base + 8) % 8;
            if (toExpected > toNext) {
                base = expected;
                next = expected;
                Arrays.fill(keptLoad, null);
                again.clear();
                Arrays.fill(sn, NONE);
                Arrays.fill(asked, false);
                resets++;
                return;
            }
            while (base != expected) {
                keptLoad[base] = null;
                base = (base + 1) % 8;
            }
            for (int p = 0; p < 8; p++) {
                if (sn[p] != NONE && keptLoad[sn[p]] == null) {
                    sn[p] = NONE;
                    asked[p] = false;
                }
            }
            again.clear();
            for (int s = base; s != next; s = (s + 1) % 8) {
                confirmed[s] = shelf[s] != null;
                boolean on = false;
                for (int p = 0; p < 8; p++) {
                    on |= sn[p] == s;
                }
                if (!confirmed[s] && !on) {
                    again.add(s);
                }
            }
        }

        // ---- the receiver

        int hear(int p, int t, int[] row, int[] values) {
            if (saw[p] != t) {
                Arrays.fill(soft[p], 0);
                bursts[p] = 0;
                has[p] = false;
                saw[p] = t;
            }
            if (has[p]) {
                repeated++;
                return 1;
            }
            bursts[p]++;
            for (int i = 0; i < values.length; i++) {
                addTo(soft[p], row[i], values[i], limit);
            }
            int best = bestOf(soft[p]);
            if (restOf(best) != 5) {
                return 0;
            }
            has[p] = true;
            comes(best / 256, best / 8 % 32);
            return 1;
        }

        void comes(int s, int load) {
            int d = (s - expected + 8) % 8;
            if (d >= window) {
                late++;
            } else if (shelf[s] != null) {
                twice++;
            } else {
                shelf[s] = load;
            }
            giveReady();
        }

        void giveReady() {
            while (shelf[expected] != null) {
                given.add(shelf[expected]);
                shelf[expected] = null;
                expected = (expected + 1) % 8;
                if (runs && expected == mark) {
                    runs = false;
                }
            }
            int farthest = NONE;
            for (int d = 0; d < 8; d++) {
                if (shelf[(expected + d) % 8] != null) {
                    farthest = d;
                }
            }
            if (farthest != NONE && !runs) {
                runs = true;
                timer = wait;
                mark = (expected + farthest + 1) % 8;
            }
        }

        void tickOnce() {
            if (!runs) {
                return;
            }
            timer--;
            if (timer > 0) {
                return;
            }
            while (expected != mark) {
                if (shelf[expected] != null) {
                    given.add(shelf[expected]);
                    shelf[expected] = null;
                } else {
                    lost++;
                }
                expected = (expected + 1) % 8;
            }
            runs = false;
            giveReady();
        }
    }

    private State now = new State();
    private final State[] images = new State[2];
    private final byte[][] trays = new byte[4][];

    static int wordOf(int sn, int load) {
        for (int w : WHOLE) {
            if (w / 256 == sn && w / 8 % 32 == load) {
                return w;
            }
        }
        return NONE;
    }

    static int[] row(int room, int version, int length) {
        int[] row = new int[length];
        int at = version * room / 4;
        int n = 0;
        while (n < length) {
            if (PLACE[at] != NONE) {
                row[n++] = PLACE[at];
            }
            at = (at + 1) % room;
        }
        return row;
    }

    private static void addTo(int[] soft, int bit, int value, int limit) {
        soft[bit] += value;
        if (soft[bit] > limit) {
            soft[bit] = limit;
        }
        if (soft[bit] < -limit) {
            soft[bit] = -limit;
        }
    }

    private static int sumOf(int[] soft, int word) {
        int sum = 0;
        for (int c = 0; c < 39; c++) {
            sum += CODE[word][c] ? soft[c] : -soft[c];
        }
        return sum;
    }

    private static int bestOf(int[] soft) {
        int best = 0;
        int most = Integer.MIN_VALUE;
        for (int w = 0; w < 2048; w++) {
            int sum = sumOf(soft, w);
            if (sum > most) {
                most = sum;
                best = w;
            }
        }
        return best;
    }

    private static int apart(int a, int b, int[] times) {
        int d = 0;
        for (int c = 0; c < 39; c++) {
            if (CODE[a][c] != CODE[b][c]) {
                d += times[c];
            }
        }
        return d;
    }

    private int[] times(int versions, int length) {
        int[] times = new int[39];
        for (int v = 0; v < 4; v++) {
            if ((versions >> v) % 2 == 1) {
                for (int c : row(now.room, v, length)) {
                    times[c]++;
                }
            }
        }
        return times;
    }

    /** From each of some WORDS, so that the document's "alike for each one" is not taken for granted. */
    private static int leastApart(List<Integer> words, int from, int[] times) {
        int least = Integer.MAX_VALUE;
        for (int w : words) {
            if (w != words.get(from % words.size())) {
                least = Math.min(least, apart(w, words.get(from % words.size()), times));
            }
        }
        return least;
    }

    private static boolean bad(int n, int from, int to) {
        return n < from || n > to;
    }

    private boolean noProcess(int p) {
        return bad(p, 0, now.processes - 1);
    }

    int word(int sn, int load) {
        return bad(sn, 0, 7) || bad(load, 0, 31) ? -3 : wordOf(sn, load);
    }

    int whole(int word) {
        return bad(word, 0, 2047) ? -3 : WHOLE.contains(word) ? 1 : 0;
    }

    long bits(int word) {
        if (bad(word, 0, 2047)) {
            return -3;
        }
        long bits = 0;
        for (int c = 38; c >= 0; c--) {
            bits = 2 * bits + (CODE[word][c] ? 1 : 0);
        }
        return bits;
    }

    int place(int place) {
        return bad(place, 0, now.room - 1) ? -2 : PLACE[place];
    }

    int sent(int version, int length, int i) {
        if (bad(version, 0, 3)) {
            return -2;
        }
        if (bad(length, 1, 60) || i < 0) {
            return -3;
        }
        return i >= length ? NONE : row(now.room, version, length)[i];
    }

    int covers(int versions, int length) {
        if (bad(versions, 0, 15) || bad(length, 1, 60)) {
            return -3;
        }
        int many = 0;
        for (int n : times(versions, length)) {
            many += n > 0 ? 1 : 0;
        }
        return many;
    }

    long lacks(int versions, int length) {
        if (bad(versions, 0, 15) || bad(length, 1, 60)) {
            return -3;
        }
        int[] times = times(versions, length);
        long lacks = 0;
        for (int c = 0; c < 39; c++) {
            lacks += times[c] == 0 ? 1L << c : 0;
        }
        return lacks;
    }

    int between(int a, int b, int versions, int length) {
        if (bad(a, 0, 2047) || bad(b, 0, 2047) || bad(versions, 0, 15) || bad(length, 1, 60)) {
            return -3;
        }
        return apart(a, b, times(versions, length));
    }

    int distance(int versions, int length, int what) {
        if (bad(what, 0, 3)) {
            return -2;
        }
        if (bad(versions, 0, 15) || bad(length, 1, 60)) {
            return -3;
        }
        int[] times = times(versions, length);
        List<Integer> words = WHOLE;
        if (what % 2 == 0) {
            words = new ArrayList<>();
            for (int w = 0; w < 2048; w++) {
                words.add(w);
            }
        }
        int from = 37 * versions + length;
        int least = leastApart(words, from, times);
        if (what < 2) {
            return least;
        }
        int many = 0;
        int one = words.get(from % words.size());
        for (int w : words) {
            many += w != one && apart(w, one, times) == least ? 1 : 0;
        }
        return many;
    }

    int shortest(int versions, int d) {
        if (bad(versions, 0, 15) || bad(d, 1, 60)) {
            return -3;
        }
        for (int length = 1; length <= 60; length++) {
            if (leastApart(WHOLE, 91, times(versions, length)) >= d) {
                return length;
            }
        }
        return NONE;
    }

    int versions(int length, int d) {
        if (bad(length, 1, 60) || bad(d, 1, 60)) {
            return -3;
        }
        int found = NONE;
        for (int set = 15; set >= 0; set--) {
            if (leastApart(WHOLE, 17, times(set, length)) >= d
                    && (found == NONE || Integer.bitCount(set) <= Integer.bitCount(found))) {
                found = set;
            }
        }
        return found;
    }

    int weak(int word, int version, int length) {
        if (bad(version, 0, 3)) {
            return -2;
        }
        if (bad(word, 0, 2047) || bad(length, 1, 60)) {
            return -3;
        }
        int[] row = row(now.room, version, length);
        int spoilt = 0;
        for (int turned = 0; turned < length; turned++) {
            int[] soft = new int[39];
            for (int i = 0; i < length; i++) {
                soft[row[i]] += CODE[word][row[i]] == (i != turned) ? 7 : -7;
            }
            spoilt += bestOf(soft) != word ? 1 : 0;
        }
        return spoilt;
    }

    int link(int processes, int window, int wait, int tries, int room) {
        if (bad(processes, 1, 8) || bad(window, 1, 4) || bad(wait, 1, 60) || bad(tries, 1, 8) || bad(room, 16, 48)) {
            return -3;
        }
        now = new State();
        now.processes = processes;
        now.window = window;
        now.wait = wait;
        now.tries = tries;
        now.room = room;
        return 0;
    }

    int limit(int n) {
        if (bad(n, 1, 9999)) {
            return -3;
        }
        int was = now.limit;
        now.limit = n;
        return was;
    }

    int fade(int n) {
        if (bad(n, 0, 60)) {
            return -3;
        }
        int was = now.fade;
        now.fade = n;
        return was;
    }

    int offer(int load) {
        if (bad(load, 0, 31)) {
            return -3;
        }
        if (now.loads.size() == 20) {
            return -4;
        }
        now.loads.add(load);
        return now.loads.size();
    }

    int send(int p, int length, int tray) {
        if (noProcess(p) || bad(tray, -1, 3)) {
            return -2;
        }
        if (bad(length, 1, 60)) {
            return -3;
        }
        if (tray != NONE && trays[tray] == null) {
            return -6;
        }
        if (!now.canSend(p)) {
            return -5;
        }
        int[] noise = new int[length];
        if (tray != NONE && trays[tray].length > 0) {
            for (int i = 0; i < length; i++) {
                noise[i] = trays[tray][i % trays[tray].length];
            }
        }
        return now.transmit(p, length, noise, true);
    }

    int answer(int p, int how) {
        if (noProcess(p)) {
            return -2;
        }
        if (bad(how, 0, 2)) {
            return -3;
        }
        return now.asked[p] ? now.readAnswer(p, how) : -5;
    }

    int burst(int p, int version, int toggle, int tray) {
        if (noProcess(p) || bad(version, 0, 3) || bad(toggle, 0, 1) || bad(tray, 0, 3)) {
            return -2;
        }
        if (trays[tray] == null) {
            return -6;
        }
        if (trays[tray].length == 0) {
            return -4;
        }
        int[] values = new int[trays[tray].length];
        for (int i = 0; i < values.length; i++) {
            values[i] = trays[tray][i];
        }
        return now.hear(p, toggle, row(now.room, version, values.length), values);
    }

    int tick(int n) {
        if (bad(n, 1, 60)) {
            return -3;
        }
        int before = now.given.size();
        for (int i = 0; i < n; i++) {
            now.tickOnce();
        }
        return now.given.size() - before;
    }

    int report() {
        now.reportComes();
        return now.again.size();
    }

    private int x;

    private int draw() {
        x = 1103515245 * x + 12345;
        return x >>> 16;
    }

    int run(int seed, int rounds, int length, int noise) {
        if (bad(rounds, 1, 60) || bad(length, 1, 60) || bad(noise, 0, 127)) {
            return -3;
        }
        x = seed;
        int before = now.given.size();
        for (int k = 0; k < rounds; k++) {
            int p = k % now.processes;
            if (now.asked[p]) {
                int drawn = draw() % 8;
                now.readAnswer(p, drawn == 0 ? 1 : drawn == 1 ? 2 : 0);
            }
            if (now.canSend(p)) {
                boolean passes = draw() % 16 != 0;
                int[] noises = new int[length];
                for (int i = 0; i < length; i++) {
                    noises[i] = draw() % (2 * noise + 1) - noise;
                }
                now.transmit(p, length, noises, passes);
            }
            now.tickOnce();
            if (k % 8 == 7) {
                now.reportComes();
            }
        }
        return now.given.size() - before;
    }

    private static boolean clear(State s) {
        return s.loads.isEmpty() && s.base == s.next;
    }

    /** 31 for more than 30. */
    private static int cleanRounds(State s, int choice) {
        s.fade = 20;
        int round = 0;
        while (!clear(s)) {
            if (round == 30) {
                return 31;
            }
            for (int p = 0; p < s.processes; p++) {
                if (s.asked[p]) {
                    s.readAnswer(p, (choice >> round) % 2);
                }
                if (s.canSend(p)) {
                    s.transmit(p, 39, new int[39], true);
                }
            }
            s.tickOnce();
            s.reportComes();
            round++;
        }
        return round;
    }

    int drain() {
        int rounds = cleanRounds(now.copy(), 0);
        return rounds > 30 ? NONE : rounds;
    }

    int drained(int i) {
        if (i < 0) {
            return -3;
        }
        State s = now.copy();
        cleanRounds(s, 0);
        int at = now.given.size() + i;
        return at < s.given.size() ? s.given.get(at) : NONE;
    }

    int worst(int k, int what) {
        if (bad(what, 0, 1)) {
            return -2;
        }
        if (bad(k, 0, 3)) {
            return -3;
        }
        int most = -1;
        int choice = 0;
        for (int c = 0; c < 1 << k; c++) {
            int rounds = cleanRounds(now.copy(), c);
            if (rounds > most) {
                most = rounds;
                choice = c;
            }
        }
        return what == 1 ? choice : most > 30 ? NONE : most;
    }

    int process(int p, int what) {
        if (noProcess(p) || bad(what, 0, 5)) {
            return -2;
        }
        int sn = now.sn[p];
        int[] told = {sn, sn == NONE ? NONE : now.keptLoad[sn], now.toggle[p], sn == NONE ? 0 : now.tried[p],
            now.asked[p] ? 1 : 0, sn == NONE ? NONE : new int[] {0, 2, 3, 1}[now.tried[p] % 4]};
        return told[what];
    }

    int kept(int sn, int what) {
        if (bad(sn, 0, 7) || bad(what, 0, 1)) {
            return -2;
        }
        if (now.keptLoad[sn] == null) {
            return NONE;
        }
        return what == 0 ? now.keptLoad[sn] : now.confirmed[sn] ? 1 : 0;
    }

    int again(int i) {
        return i < 0 ? -3 : i < now.again.size() ? now.again.get(i) : NONE;
    }

    int waiting(int i) {
        return i < 0 ? -3 : i < now.loads.size() ? now.loads.get(i) : NONE;
    }

    int next(int p, int length) {
        if (noProcess(p)) {
            return -2;
        }
        if (bad(length, 1, 60)) {
            return -3;
        }
        if (now.sn[p] == NONE) {
            return -5;
        }
        int found = NONE;
        int most = NONE;
        for (int v = 0; v < 4; v++) {
            int[] times = times(1 << v, length);
            for (int[] sending : now.sendings.get(p)) {
                for (int c : row(now.room, sending[0], sending[1])) {
                    times[c]++;
                }
            }
            int least = leastApart(WHOLE, 5, times);
            if (least > most) {
                most = least;
                found = v;
            }
        }
        return found;
    }

    int enough(int p, int length, int strength) {
        if (noProcess(p)) {
            return -2;
        }
        if (bad(length, 1, 60) || bad(strength, 1, 60)) {
            return -3;
        }
        if (now.sn[p] == NONE) {
            return -5;
        }
        int[] soft = now.saw[p] == now.toggle[p] ? now.soft[p].clone() : new int[39];
        int word = wordOf(now.sn[p], now.keptLoad[now.sn[p]]);
        for (int n = 1; n <= 8; n++) {
            int version = new int[] {0, 2, 3, 1}[(now.tried[p] + n - 1) % 4];
            for (int c : row(now.room, version, length)) {
                addTo(soft, c, CODE[word][c] ? strength : -strength, now.limit);
            }
            if (bestOf(soft) == word) {
                return n;
            }
        }
        return NONE;
    }

    int soft(int p, int bit) {
        if (noProcess(p)) {
            return -99000002;
        }
        if (now.saw[p] == NONE) {
            return -99000006;
        }
        return bad(bit, 0, 38) ? -99000007 : now.soft[p][bit];
    }

    int heard(int p, int what) {
        if (noProcess(p) || bad(what, 0, 2)) {
            return -2;
        }
        return new int[] {now.saw[p], now.bursts[p], now.has[p] ? 1 : 0}[what];
    }

    /** -2, -6, or 0 if there are SOFT numbers. */
    private int refusal(int p) {
        return noProcess(p) ? -2 : now.saw[p] == NONE ? -6 : 0;
    }

    /** All WORDS by SUM, the greatest first, of like ones the least. */
    private List<Integer> ranking(int p) {
        List<Integer> words = new ArrayList<>();
        int[] sums = new int[2048];
        for (int w = 0; w < 2048; w++) {
            words.add(w);
            sums[w] = sumOf(now.soft[p], w);
        }
        words.sort((a, b) -> sums[a] != sums[b] ? Integer.compare(sums[b], sums[a]) : Integer.compare(a, b));
        return words;
    }

    int best(int p) {
        return refusal(p) != 0 ? refusal(p) : ranking(p).get(0);
    }

    int sum(int p, int word) {
        if (noProcess(p)) {
            return -99000002;
        }
        if (bad(word, 0, 2047)) {
            return -99000003;
        }
        return now.saw[p] == NONE ? -99000006 : sumOf(now.soft[p], word);
    }

    int margin(int p) {
        if (refusal(p) != 0) {
            return refusal(p);
        }
        List<Integer> ranking = ranking(p);
        return sumOf(now.soft[p], ranking.get(0)) - sumOf(now.soft[p], ranking.get(1));
    }

    int second(int p) {
        return refusal(p) != 0 ? refusal(p) : ranking(p).get(1);
    }

    int lean(int p, int step) {
        if (noProcess(p)) {
            return -99000002;
        }
        if (bad(step, 0, 10)) {
            return -99000003;
        }
        if (now.saw[p] == NONE) {
            return -99000006;
        }
        int[] most = {Integer.MIN_VALUE, Integer.MIN_VALUE};
        for (int w = 0; w < 2048; w++) {
            int bit = stepBit(w, step);
            most[bit] = Math.max(most[bit], sumOf(now.soft[p], w));
        }
        return most[1] - most[0];
    }

    int ties(int p, int what) {
        if (noProcess(p) || bad(what, 0, 1)) {
            return -2;
        }
        if (refusal(p) != 0) {
            return refusal(p);
        }
        int most = sumOf(now.soft[p], bestOf(now.soft[p]));
        int many = 0;
        for (int w = 0; w < 2048; w++) {
            if (sumOf(now.soft[p], w) == most && (what == 0 || restOf(w) == 5)) {
                many++;
            }
        }
        return many;
    }

    int rank(int p, int word) {
        if (noProcess(p)) {
            return -2;
        }
        if (bad(word, 0, 2047)) {
            return -3;
        }
        if (now.saw[p] == NONE) {
            return -6;
        }
        int own = sumOf(now.soft[p], word);
        int many = 0;
        for (int w = 0; w < 2048; w++) {
            many += sumOf(now.soft[p], w) > own ? 1 : 0;
        }
        return many;
    }

    int listed(int p, int i) {
        if (noProcess(p)) {
            return -2;
        }
        if (bad(i, 0, 255)) {
            return -3;
        }
        if (now.saw[p] == NONE) {
            return -6;
        }
        List<Integer> words = ranking(p);
        words.removeIf(w -> restOf(w) != 5);
        return words.get(i);
    }

    private int unlike(int p, int word) {
        int many = 0;
        for (int c = 0; c < 39; c++) {
            boolean above = now.soft[p][c] > 0 && !CODE[word][c];
            boolean below = now.soft[p][c] < 0 && CODE[word][c];
            many += above || below ? 1 : 0;
        }
        return many;
    }

    int against(int p, int word) {
        if (noProcess(p)) {
            return -2;
        }
        if (bad(word, 0, 2047)) {
            return -3;
        }
        return now.saw[p] == NONE ? -6 : unlike(p, word);
    }

    int known(int p, int what) {
        if (noProcess(p) || bad(what, 0, 1)) {
            return -2;
        }
        if (now.saw[p] == NONE) {
            return -6;
        }
        int[] times = new int[39];
        int many = 0;
        for (int c = 0; c < 39; c++) {
            times[c] = now.soft[p][c] == 0 ? 0 : 1;
            many += times[c];
        }
        return what == 0 ? many : leastApart(WHOLE, 200, times);
    }

    int wrong(int p) {
        return refusal(p) != 0 ? refusal(p) : unlike(p, bestOf(now.soft[p]));
    }

    int stored(int sn) {
        return bad(sn, 0, 7) ? -7 : now.shelf[sn] == null ? -6 : now.shelf[sn];
    }

    int gaps(int what) {
        if (bad(what, 0, 2)) {
            return -2;
        }
        int first = NONE;
        int farthest = NONE;
        for (int d = 0; d < 8; d++) {
            if (now.shelf[(now.expected + d) % 8] != null) {
                farthest = d;
                first = first == NONE ? (now.expected + d) % 8 : first;
            }
        }
        int missing = 0;
        for (int d = 0; d < farthest; d++) {
            missing += now.shelf[(now.expected + d) % 8] == null ? 1 : 0;
        }
        if (what == 1) {
            return first;
        }
        if (what == 0) {
            return missing;
        }
        State s = now.copy();
        int before = s.given.size();
        int from = s.expected;
        for (int d = farthest; d >= 0; d--) {
            if (s.shelf[(from + d) % 8] == null) {
                s.comes((from + d) % 8, 0);
            }
        }
        return s.given.size() - before;
    }

    int given(int i) {
        if (i < 0) {
            return -3;
        }
        return i > 255 || i >= now.given.size() ? NONE : now.given.get(now.given.size() - 1 - i);
    }

    int would(int sn, int what) {
        if (bad(sn, 0, 7) || bad(what, 0, 1)) {
            return -2;
        }
        State s = now.copy();
        s.comes(sn, 0);
        int more = s.given.size() - now.given.size();
        if (what == 1) {
            return more;
        }
        return s.late > now.late ? 3 : s.twice > now.twice ? 2 : more > 0 ? 0 : 1;
    }

    int tray(int tray, int n) {
        if (bad(tray, 0, 3)) {
            return -2;
        }
        if (bad(n, 0, 60)) {
            return -3;
        }
        trays[tray] = new byte[n];
        return 0;
    }

    int write(int tray, int i, int v) {
        if (bad(tray, 0, 3)) {
            return -1002;
        }
        if (trays[tray] == null) {
            return -1006;
        }
        if (bad(i, 0, trays[tray].length - 1)) {
            return -1007;
        }
        trays[tray][i] = (byte) v;
        return trays[tray][i];
    }

    int lists(int tray, int p) {
        if (bad(tray, 0, 3) || noProcess(p)) {
            return -2;
        }
        if (trays[tray] == null || now.saw[p] == NONE) {
            return -6;
        }
        int n = 0;
        while (n < 39 && n < trays[tray].length) {
            trays[tray][n] = (byte) Math.max(-127, Math.min(127, now.soft[p][n]));
            n++;
        }
        return n;
    }

    int image(int i) {
        if (bad(i, 0, 1)) {
            return -2;
        }
        images[i] = now.copy();
        return 0;
    }

    int restore(int i) {
        if (bad(i, 0, 1)) {
            return -2;
        }
        if (images[i] == null) {
            return -5;
        }
        now = images[i].copy();
        return 0;
    }

    int count(int what) {
        int stored = 0;
        for (Integer load : now.shelf) {
            stored += load != null ? 1 : 0;
        }
        int[] told = {now.loads.size(), now.next, now.base, now.again.size(), now.expected, stored,
            now.runs ? now.timer : NONE, now.runs ? now.mark : NONE, now.given.size(), now.lost, now.late, now.twice,
            now.dropped, now.resets, now.repeated, now.processes, now.window, now.room, now.limit, now.fade};
        return bad(what, 0, 19) ? NONE : told[what];
    }
}
