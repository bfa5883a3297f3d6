import java.util.Arrays;

/** A retransmission combiner for a fading radio link; the document's face stands first, its parts behind it. */
public final class FadeJoiner {
    public static final int NONE = -1;

    private static final int NO_SUCH = -2;
    private static final int BAD_NUMBER = -3;
    private static final int TOO_MANY = -4;
    private static final int NOT_NOW = -5;
    private static final int MISSING = -6;
    private static final int NO_NUMBER = -7;
    // soft(), sum() and lean() may answer small numbers below 0, write() any byte: their codes lie far off.
    private static final int FAR_CODES = -99000000;
    private static final int BYTE_CODES = -1000;

    private static final int SNS = 8;
    private static final int TOP_LOAD = 31;
    private static final int WORDS = 2048;
    private static final int WHOLE_WORDS = 256;
    private static final int WHOLE_REST = 5;
    private static final int STEPS = 13;
    private static final int WORD_STEPS = 11;
    private static final int CODE_BITS = 39;
    private static final long ALL_CODE_BITS = (1L << CODE_BITS) - 1;
    private static final int PLACES = 48;
    private static final int VERSIONS = 4;
    private static final int VERSION_SETS = 16;
    private static final int LONGEST = 60;
    private static final int TOP_DISTANCE = 60;
    private static final int MOST_PROCESSES = 8;
    private static final int MOST_WAITING = 20;
    private static final int MOST_SENDINGS = 8;
    private static final int TOP_VALUE = 127;
    private static final int TOP_FADE = 60;
    private static final int GIVEN_KEPT = 256;
    private static final int CLEAN_FADE = 20;
    private static final int CLEAN_LENGTH = 39;
    private static final int CLEAN_ROUNDS = 30;
    private static final int AS_IT_IS = 0;
    private static final int MISREAD = 1;
    private static final int NOTHING_READ = 2;
    private static final int IMAGES = 2;
    private static final int TRAYS = 4;
    private static final int[] COLUMNS = {0, 2, 1, 3};
    private static final int[] VERSION_ORDER = {0, 2, 3, 1};

    private final Code code = new Code();
    private final Ring ring = new Ring();
    private final Weights weights = new Weights();
    private final Decoder decoder = new Decoder();
    private final Air air = new Air(code, ring, decoder);
    private final Trays trays = new Trays();
    private final Link now = new Link();
    private final Link[] images = new Link[IMAGES];
    private final int[] counts = new int[CODE_BITS];
    private final int[] scratch = new int[CODE_BITS];
    private final long[] keys = new long[WHOLE_WORDS];

    public FadeJoiner() {
    }

    // ---- the code

    public int word(int sn, int load) {
        if (!isSn(sn) || load < 0 || load > TOP_LOAD) {
            return BAD_NUMBER;
        }
        return Code.wholeWord(sn << 5 | load);
    }

    public int whole(int word) {
        if (!isWord(word)) {
            return BAD_NUMBER;
        }
        return Code.isWhole(word) ? 1 : 0;
    }

    public long bits(int word) {
        if (!isWord(word)) {
            return BAD_NUMBER;
        }
        return code.words[word];
    }

    public int place(int place) {
        if (place < 0 || place >= now.room) {
            return NO_SUCH;
        }
        return Ring.bitAtPlace(place);
    }

    public int sent(int version, int length, int i) {
        if (!isVersion(version)) {
            return NO_SUCH;
        }
        if (!isLength(length) || i < 0) {
            return BAD_NUMBER;
        }
        if (i >= length) {
            return NONE;
        }
        ring.lay(now.room, version, length);
        return ring.row[i];
    }

    public int covers(int versions, int length) {
        if (!isVersionSet(versions) || !isLength(length)) {
            return BAD_NUMBER;
        }
        return CODE_BITS - Long.bitCount(unsentBits(versions, length));
    }

    public long lacks(int versions, int length) {
        if (!isVersionSet(versions) || !isLength(length)) {
            return BAD_NUMBER;
        }
        return unsentBits(versions, length);
    }

    public int between(int a, int b, int versions, int length) {
        if (!isWord(a) || !isWord(b) || !isVersionSet(versions) || !isLength(length)) {
            return BAD_NUMBER;
        }
        weighVersions(versions, length);
        return weights.weigh(code.words[a] ^ code.words[b]);
    }

    public int distance(int versions, int length, int what) {
        if (what < 0 || what > 3) {
            return NO_SUCH;
        }
        if (!isVersionSet(versions) || !isLength(length)) {
            return BAD_NUMBER;
        }
        weighVersions(versions, length);
        long[] others = (what & 1) == 0 ? code.words : code.wholeSteps;
        int least = weights.least(others);
        return what < 2 ? least : weights.howManyAt(others, least);
    }

    public int shortest(int versions, int d) {
        if (!isVersionSet(versions) || !isDistance(d)) {
            return BAD_NUMBER;
        }
        if (wholeApart(versions, LONGEST) < d) {
            return NONE;
        }
        // A longer SENDING has all of a shorter one, so DISTANCES never shrink and halving finds the first.
        int low = 1;
        int high = LONGEST;
        for (int n = 0; n < LONGEST && low < high; n++) {
            int middle = (low + high) >> 1;
            if (wholeApart(versions, middle) >= d) {
                high = middle;
            } else {
                low = middle + 1;
            }
        }
        return low;
    }

    public int versions(int length, int d) {
        if (!isLength(length) || !isDistance(d)) {
            return BAD_NUMBER;
        }
        for (int few = 1; few <= VERSIONS; few++) {
            for (int set = 1; set < VERSION_SETS; set++) {
                if (Integer.bitCount(set) == few && wholeApart(set, length) >= d) {
                    return set;
                }
            }
        }
        return NONE;
    }

    public int weak(int word, int version, int length) {
        if (!isVersion(version)) {
            return NO_SUCH;
        }
        if (!isWord(word) || !isLength(length)) {
            return BAD_NUMBER;
        }
        countVersions(1 << version, length);
        long bits = code.words[word];
        for (int c = 0; c < CODE_BITS; c++) {
            scratch[c] = Code.isOne(bits, c) ? counts[c] : -counts[c];
        }
        int spoilt = 0;
        for (int c = 0; c < CODE_BITS; c++) {
            if (counts[c] > 0 && turnSpoils(word, c)) {
                // All values of one CODE BIT are alike, so each of them alone does the same.
                spoilt += counts[c];
            }
        }
        return spoilt;
    }

    // ---- the link

    public int link(int processes, int window, int wait, int tries, int room) {
        if (processes < 1 || processes > MOST_PROCESSES || window < 1 || window > 4 || wait < 1 || wait > 60) {
            return BAD_NUMBER;
        }
        if (tries < 1 || tries > MOST_SENDINGS || room < 16 || room > PLACES) {
            return BAD_NUMBER;
        }
        now.begin();
        now.processes = processes;
        now.window = window;
        now.wait = wait;
        now.tries = tries;
        now.room = room;
        return 0;
    }

    public int limit(int n) {
        if (n < 1 || n > 9999) {
            return BAD_NUMBER;
        }
        int was = now.limit;
        now.limit = n;
        return was;
    }

    public int fade(int n) {
        if (n < 0 || n > TOP_FADE) {
            return BAD_NUMBER;
        }
        int was = now.fade;
        now.fade = n;
        return was;
    }

    public int offer(int load) {
        if (load < 0 || load > TOP_LOAD) {
            return BAD_NUMBER;
        }
        Sender sender = now.sender;
        if (sender.loadCount >= MOST_WAITING) {
            return TOO_MANY;
        }
        sender.loads[sender.loadCount] = load;
        sender.loadCount++;
        return sender.loadCount;
    }

    public int send(int p, int length, int tray) {
        if (!isProcess(p) || tray < NONE || tray >= TRAYS) {
            return NO_SUCH;
        }
        if (!isLength(length)) {
            return BAD_NUMBER;
        }
        if (tray != NONE && trays.isMissing(tray)) {
            return MISSING;
        }
        if (!now.sender.isAble(p, now.window)) {
            return NOT_NOW;
        }
        int size = tray == NONE ? 0 : trays.sizes[tray];
        air.quiet();
        int at = 0;
        for (int i = 0; i < length && size > 0; i++) {
            air.values[i] = trays.rows[tray][at];
            at = at + 1 < size ? at + 1 : 0;
        }
        return air.transmit(now, p, length, true);
    }

    public int answer(int p, int how) {
        if (!isProcess(p)) {
            return NO_SUCH;
        }
        if (how < AS_IT_IS || how > NOTHING_READ) {
            return BAD_NUMBER;
        }
        if (!now.sender.slots[p].asked) {
            return NOT_NOW;
        }
        return now.readAnswer(p, how);
    }

    public int burst(int p, int version, int toggle, int tray) {
        if (!isProcess(p) || !isVersion(version) || toggle < 0 || toggle > 1 || !isTray(tray)) {
            return NO_SUCH;
        }
        if (trays.isMissing(tray)) {
            return MISSING;
        }
        int length = trays.sizes[tray];
        if (length == 0) {
            return TOO_MANY;
        }
        for (int i = 0; i < length; i++) {
            air.values[i] = trays.rows[tray][i];
        }
        ring.lay(now.room, version, length);
        return air.hear(now, p, toggle, length);
    }

    public int tick(int n) {
        if (n < 1 || n > 60) {
            return BAD_NUMBER;
        }
        int before = now.receiver.givenTotal;
        for (int i = 0; i < n; i++) {
            now.receiver.passTime(now.wait);
        }
        return now.receiver.givenTotal - before;
    }

    public int report() {
        now.sender.learn(now.receiver);
        return now.sender.againCount;
    }

    public int run(int seed, int rounds, int length, int noise) {
        if (rounds < 1 || rounds > 60 || !isLength(length) || noise < 0 || noise > TOP_VALUE) {
            return BAD_NUMBER;
        }
        int before = now.receiver.givenTotal;
        air.x = seed;
        for (int k = 0; k < rounds; k++) {
            air.drawnRound(now, k, length, noise);
        }
        return now.receiver.givenTotal - before;
    }

    public int drain() {
        return air.roundsTillClear(now, 0);
    }

    public int drained(int i) {
        if (i < 0) {
            return BAD_NUMBER;
        }
        air.roundsTillClear(now, 0);
        // 30 rounds of 8 SENDINGS give fewer than the 256 that are kept, so none of these is overwritten.
        Receiver then = air.trial.receiver;
        int came = then.givenTotal - now.receiver.givenTotal;
        return i < came ? then.givenAgo(came - 1 - i) : NONE;
    }

    public int worst(int k, int what) {
        if (what < 0 || what > 1) {
            return NO_SUCH;
        }
        if (k < 0 || k > 3) {
            return BAD_NUMBER;
        }
        int most = 0;
        int choice = 0;
        for (int misreads = 0; misreads < 1 << k; misreads++) {
            int rounds = air.roundsTillClear(now, misreads);
            int length = rounds == NONE ? CLEAN_ROUNDS + 1 : rounds;
            if (length > most) {
                most = length;
                choice = misreads;
            }
        }
        if (what == 1) {
            return choice;
        }
        return most > CLEAN_ROUNDS ? NONE : most;
    }

    // ---- the sender

    public int process(int p, int what) {
        if (!isProcess(p)) {
            return NO_SUCH;
        }
        Slot slot = now.sender.slots[p];
        boolean idle = slot.sn == NONE;
        switch (what) {
            case 0:
                return slot.sn;
            case 1:
                return idle ? NONE : now.sender.keptLoads[slot.sn];
            case 2:
                return slot.toggle;
            case 3:
                return idle ? 0 : slot.tried;
            case 4:
                return slot.asked ? 1 : 0;
            case 5:
                return idle ? NONE : VERSION_ORDER[slot.tried & 3];
            default:
                return NO_SUCH;
        }
    }

    public int kept(int sn, int what) {
        if (!isSn(sn) || what < 0 || what > 1) {
            return NO_SUCH;
        }
        if (!now.sender.isKept(sn)) {
            return NONE;
        }
        return what == 0 ? now.sender.keptLoads[sn] : now.sender.confirmed[sn];
    }

    public int again(int i) {
        if (i < 0) {
            return BAD_NUMBER;
        }
        return i < now.sender.againCount ? now.sender.againSns[i] : NONE;
    }

    public int waiting(int i) {
        if (i < 0) {
            return BAD_NUMBER;
        }
        return i < now.sender.loadCount ? now.sender.loads[i] : NONE;
    }

    public int next(int p, int length) {
        if (!isProcess(p)) {
            return NO_SUCH;
        }
        if (!isLength(length)) {
            return BAD_NUMBER;
        }
        Slot slot = now.sender.slots[p];
        if (slot.sn == NONE) {
            return NOT_NOW;
        }
        int chosen = 0;
        int farthest = -1;
        for (int version = 0; version < VERSIONS; version++) {
            System.arraycopy(slot.tally, 0, counts, 0, CODE_BITS);
            ring.lay(now.room, version, length);
            ring.addTo(counts, length);
            weights.take(counts);
            int apart = weights.least(code.wholeSteps);
            if (apart > farthest) {
                farthest = apart;
                chosen = version;
            }
        }
        return chosen;
    }

    public int enough(int p, int length, int strength) {
        if (!isProcess(p)) {
            return NO_SUCH;
        }
        if (!isLength(length) || strength < 1 || strength > TOP_FADE) {
            return BAD_NUMBER;
        }
        Slot slot = now.sender.slots[p];
        if (slot.sn == NONE) {
            return NOT_NOW;
        }
        Ear ear = now.receiver.ears[p];
        if (ear.saw == slot.toggle) {
            System.arraycopy(ear.soft, 0, scratch, 0, CODE_BITS);
        } else {
            Arrays.fill(scratch, 0);
        }
        int word = now.sender.wordOn(slot);
        for (int n = 0; n < MOST_SENDINGS; n++) {
            ring.lay(now.room, VERSION_ORDER[(slot.tried + n) & 3], length);
            air.addClean(scratch, code.words[word], length, strength, now.limit);
            if (decoder.bestWord(scratch) == word) {
                return n + 1;
            }
        }
        return NONE;
    }

    // ---- the receiver

    public int soft(int p, int bit) {
        int refusal = refuseEar(p);
        if (refusal != 0) {
            return FAR_CODES + refusal;
        }
        if (bit < 0 || bit >= CODE_BITS) {
            return FAR_CODES + NO_NUMBER;
        }
        return now.receiver.ears[p].soft[bit];
    }

    public int heard(int p, int what) {
        if (!isProcess(p)) {
            return NO_SUCH;
        }
        Ear ear = now.receiver.ears[p];
        switch (what) {
            case 0:
                return ear.saw;
            case 1:
                return ear.bursts;
            case 2:
                return ear.has ? 1 : 0;
            default:
                return NO_SUCH;
        }
    }

    public int best(int p) {
        int refusal = refuseEar(p);
        return refusal != 0 ? refusal : decoder.bestWord(now.receiver.ears[p].soft);
    }

    public int sum(int p, int word) {
        int refusal = refuseEarAnd(p, isWord(word));
        if (refusal != 0) {
            return FAR_CODES + refusal;
        }
        int[] soft = now.receiver.ears[p].soft;
        int total = 0;
        for (int c = 0; c < CODE_BITS; c++) {
            total += Code.isOne(code.words[word], c) ? soft[c] : -soft[c];
        }
        return total;
    }

    public int margin(int p) {
        int refusal = refuseEar(p);
        if (refusal != 0) {
            return refusal;
        }
        decoder.sumAll(now.receiver.ears[p].soft);
        int first = decoder.greatestBut(NONE);
        return decoder.sums[first] - decoder.sums[decoder.greatestBut(first)];
    }

    public int second(int p) {
        int refusal = refuseEar(p);
        if (refusal != 0) {
            return refusal;
        }
        decoder.sumAll(now.receiver.ears[p].soft);
        return decoder.greatestBut(decoder.greatestBut(NONE));
    }

    public int lean(int p, int step) {
        int refusal = refuseEarAnd(p, step >= 0 && step < WORD_STEPS);
        if (refusal != 0) {
            return FAR_CODES + refusal;
        }
        decoder.sumAll(now.receiver.ears[p].soft);
        int shift = WORD_STEPS - 1 - step;
        return decoder.greatestWith(shift, 1) - decoder.greatestWith(shift, 0);
    }

    public int ties(int p, int what) {
        if (what < 0 || what > 1) {
            return NO_SUCH;
        }
        int refusal = refuseEar(p);
        if (refusal != 0) {
            return refusal;
        }
        decoder.sumAll(now.receiver.ears[p].soft);
        int greatest = decoder.sums[decoder.greatestBut(NONE)];
        int alike = 0;
        for (int word = 0; word < WORDS; word++) {
            if (decoder.sums[word] == greatest && (what == 0 || Code.isWhole(word))) {
                alike++;
            }
        }
        return alike;
    }

    public int rank(int p, int word) {
        int refusal = refuseEarAnd(p, isWord(word));
        if (refusal != 0) {
            return refusal;
        }
        decoder.sumAll(now.receiver.ears[p].soft);
        int own = decoder.sums[word];
        int ahead = 0;
        for (int other = 0; other < WORDS; other++) {
            if (decoder.sums[other] > own) {
                ahead++;
            }
        }
        return ahead;
    }

    public int listed(int p, int i) {
        int refusal = refuseEarAnd(p, i >= 0 && i < WHOLE_WORDS);
        if (refusal != 0) {
            return refusal;
        }
        decoder.sumAll(now.receiver.ears[p].soft);
        for (int n = 0; n < WHOLE_WORDS; n++) {
            int word = Code.wholeWord(n);
            // The greater key is listed first: by SUM (made positive), of like ones the least WORD.
            keys[n] = (decoder.sums[word] + 1000000L) * WORDS + (WORDS - 1 - word);
        }
        return WORDS - 1 - (int) (keyAt(i) & (WORDS - 1));
    }

    public int against(int p, int word) {
        int refusal = refuseEarAnd(p, isWord(word));
        return refusal != 0 ? refusal : unlikeSigns(now.receiver.ears[p].soft, code.words[word]);
    }

    public int known(int p, int what) {
        if (what < 0 || what > 1) {
            return NO_SUCH;
        }
        int refusal = refuseEar(p);
        if (refusal != 0) {
            return refusal;
        }
        int[] soft = now.receiver.ears[p].soft;
        int tellings = 0;
        for (int c = 0; c < CODE_BITS; c++) {
            counts[c] = soft[c] != 0 ? 1 : 0;
            tellings += counts[c];
        }
        if (what == 0) {
            return tellings;
        }
        weights.take(counts);
        return weights.least(code.wholeSteps);
    }

    public int wrong(int p) {
        int refusal = refuseEar(p);
        if (refusal != 0) {
            return refusal;
        }
        int[] soft = now.receiver.ears[p].soft;
        return unlikeSigns(soft, code.words[decoder.bestWord(soft)]);
    }

    public int stored(int sn) {
        if (!isSn(sn)) {
            return NO_NUMBER;
        }
        int load = now.receiver.shelf[sn];
        return load == NONE ? MISSING : load;
    }

    public int gaps(int what) {
        Receiver receiver = now.receiver;
        int farthest = receiver.farthestStored();
        switch (what) {
            case 0:
                return farthest == NONE ? 0 : farthest + 1 - receiver.howManyStored();
            case 1:
                return receiver.firstStored();
            case 2:
                return farthest + 1;
            default:
                return NO_SUCH;
        }
    }

    public int given(int i) {
        if (i < 0) {
            return BAD_NUMBER;
        }
        return now.receiver.givenAgo(i);
    }

    public int would(int sn, int what) {
        if (!isSn(sn) || what < 0 || what > 1) {
            return NO_SUCH;
        }
        Receiver receiver = now.receiver;
        int fate = receiver.fateOf(sn, now.window);
        if (what == 0) {
            return fate;
        }
        return fate == Receiver.GIVEN_OUT ? 1 + receiver.readyBehindExpected() : 0;
    }

    // ---- trays, images

    public int tray(int tray, int n) {
        if (!isTray(tray)) {
            return NO_SUCH;
        }
        if (n < 0 || n > LONGEST) {
            return BAD_NUMBER;
        }
        trays.sizes[tray] = n;
        Arrays.fill(trays.rows[tray], (byte) 0);
        return 0;
    }

    public int write(int tray, int i, int v) {
        if (!isTray(tray)) {
            return BYTE_CODES + NO_SUCH;
        }
        if (trays.isMissing(tray)) {
            return BYTE_CODES + MISSING;
        }
        if (i < 0 || i >= trays.sizes[tray]) {
            return BYTE_CODES + NO_NUMBER;
        }
        trays.rows[tray][i] = (byte) v;
        return trays.rows[tray][i];
    }

    public int lists(int tray, int p) {
        if (!isTray(tray) || !isProcess(p)) {
            return NO_SUCH;
        }
        if (trays.isMissing(tray) || now.receiver.ears[p].saw == NONE) {
            return MISSING;
        }
        int many = Math.min(CODE_BITS, trays.sizes[tray]);
        for (int c = 0; c < many; c++) {
            trays.rows[tray][c] = (byte) Air.within(now.receiver.ears[p].soft[c], TOP_VALUE);
        }
        return many;
    }

    public int image(int i) {
        if (i < 0 || i >= IMAGES) {
            return NO_SUCH;
        }
        if (images[i] == null) {
            images[i] = new Link();
        }
        images[i].copyFrom(now);
        return 0;
    }

    public int restore(int i) {
        if (i < 0 || i >= IMAGES) {
            return NO_SUCH;
        }
        if (images[i] == null) {
            return NOT_NOW;
        }
        now.copyFrom(images[i]);
        return 0;
    }

    public int count(int what) {
        Sender sender = now.sender;
        switch (what) {
            case 0:
                return sender.loadCount;
            case 1:
                return sender.nextSn;
            case 2:
                return sender.base;
            case 3:
                return sender.againCount;
            case 12:
                return sender.dropped;
            case 13:
                return sender.resets;
            case 15:
                return now.processes;
            case 16:
                return now.window;
            case 17:
                return now.room;
            case 18:
                return now.limit;
            case 19:
                return now.fade;
            default:
                return now.receiver.tell(what);
        }
    }

    // ---- what the calls share

    private static boolean isSn(int sn) {
        return sn >= 0 && sn < SNS;
    }

    private static boolean isWord(int word) {
        return word >= 0 && word < WORDS;
    }

    private static boolean isVersion(int version) {
        return version >= 0 && version < VERSIONS;
    }

    private static boolean isVersionSet(int set) {
        return set >= 0 && set < VERSION_SETS;
    }

    private static boolean isLength(int length) {
        return length >= 1 && length <= LONGEST;
    }

    private static boolean isDistance(int d) {
        return d >= 1 && d <= TOP_DISTANCE;
    }

    private static boolean isTray(int tray) {
        return tray >= 0 && tray < TRAYS;
    }

    private boolean isProcess(int p) {
        return p >= 0 && p < now.processes;
    }

    private int refuseEar(int p) {
        return refuseEarAnd(p, true);
    }

    /** The code of a call that needs SOFT numbers and another number that is fit; 0 if it isn't refused. */
    private int refuseEarAnd(int p, boolean fit) {
        if (!isProcess(p)) {
            return NO_SUCH;
        }
        if (!fit) {
            return BAD_NUMBER;
        }
        return now.receiver.ears[p].saw == NONE ? MISSING : 0;
    }

    private void countVersions(int set, int length) {
        Arrays.fill(counts, 0);
        for (int version = 0; version < VERSIONS; version++) {
            if (((set >> version) & 1) == 1) {
                ring.lay(now.room, version, length);
                ring.addTo(counts, length);
            }
        }
    }

    private long unsentBits(int set, int length) {
        countVersions(set, length);
        long unsent = ALL_CODE_BITS;
        for (int c = 0; c < CODE_BITS; c++) {
            if (counts[c] > 0) {
                unsent &= ~(1L << c);
            }
        }
        return unsent;
    }

    private void weighVersions(int set, int length) {
        countVersions(set, length);
        weights.take(counts);
    }

    private int wholeApart(int set, int length) {
        weighVersions(set, length);
        return weights.least(code.wholeSteps);
    }

    /** Whether one value less of a CODE BIT, and one more of the other sign, leaves another WORD THE BEST. */
    private boolean turnSpoils(int word, int c) {
        int was = scratch[c];
        scratch[c] = was > 0 ? was - 2 : was + 2;
        boolean spoils = decoder.bestWord(scratch) != word;
        scratch[c] = was;
        return spoils;
    }

    /** The key that just i of the others are above: the greatest number that more than i keys reach. */
    private long keyAt(int i) {
        long found = 0;
        for (int bit = 32; bit >= 0; bit--) {
            long higher = found | (1L << bit);
            int reaching = 0;
            for (int n = 0; n < WHOLE_WORDS; n++) {
                if (keys[n] >= higher) {
                    reaching++;
                }
            }
            if (reaching > i) {
                found = higher;
            }
        }
        return found;
    }

    private static int unlikeSigns(int[] soft, long bits) {
        int unlike = 0;
        for (int c = 0; c < CODE_BITS; c++) {
            if (Code.isOne(bits, c) ? soft[c] < 0 : soft[c] > 0) {
                unlike++;
            }
        }
        return unlike;
    }

    /** WORDS and their CODE BITS. */
    private static final class Code {
        // CODE BITS of a WORD whose only 1 is in STEP 0; a later STEP moves them up by as much.
        static final long FIRST_STEP = 1L | 7L << STEPS | 5L << (2 * STEPS);

        final long[] words = new long[WORDS];
        // By exclusive or of one WHOLE WORD with all: the code is linear, so these stand for all their pairs.
        final long[] wholeSteps = new long[WHOLE_WORDS];

        Code() {
            for (int step = WORD_STEPS - 1; step >= 0; step--) {
                int highest = 1 << (WORD_STEPS - 1 - step);
                for (int lower = 0; lower < highest; lower++) {
                    words[highest + lower] = words[lower] ^ (FIRST_STEP << step);
                }
            }
            for (int n = 1; n < WHOLE_WORDS; n++) {
                wholeSteps[n] = words[wholeWord(n)] ^ words[wholeWord(0)];
            }
        }

        static int restOf(int word) {
            int left = word;
            for (int at = WORD_STEPS - 1; at >= 3; at--) {
                if (((left >> at) & 1) == 1) {
                    left ^= 11 << (at - 3);
                }
            }
            return left;
        }

        static boolean isWhole(int word) {
            return restOf(word) == WHOLE_REST;
        }

        /** The WHOLE WORD with n (0 to 255; the SN, then the LOAD) above its lowest 3 bits. */
        static int wholeWord(int n) {
            int head = n << 3;
            return head | (restOf(head) ^ WHOLE_REST);
        }

        static boolean isOne(long bits, int c) {
            return ((bits >> c) & 1L) == 1L;
        }
    }

    /** THE RING, and the row of CODE BITS of the SENDING laid out last. */
    private static final class Ring {
        final int[] order = new int[CODE_BITS];
        final int[] filledAhead = new int[PLACES + 1];
        final int[] row = new int[LONGEST];

        Ring() {
            int many = 0;
            for (int at = 0; at < PLACES; at++) {
                filledAhead[at] = many;
                int bit = bitAtPlace(at);
                if (bit != NONE && many < CODE_BITS) {
                    order[many] = bit;
                    many++;
                }
            }
            filledAhead[PLACES] = many;
        }

        /** The CODE BIT at a PLACE from 0 to 47; NONE: it is EMPTY. */
        static int bitAtPlace(int at) {
            int stream = at < 16 ? 0 : 1 + (at & 1);
            int turn = at < 16 ? at : (at - 16) >> 1;
            int cell = 4 * (turn & 3) + COLUMNS[(turn >> 2) & 3];
            return cell < 3 ? NONE : STEPS * stream + cell - 3;
        }

        void lay(int room, int version, int length) {
            int size = filledAhead[room];
            int at = filledAhead[(version * room) >> 2];
            for (int i = 0; i < length; i++) {
                if (at >= size) {
                    at = 0;
                }
                row[i] = order[at];
                at++;
            }
        }

        void addTo(int[] tally, int length) {
            for (int i = 0; i < length; i++) {
                tally[row[i]]++;
            }
        }
    }

    /** How often each CODE BIT counts, held by binary digits so that many CODE BITS are weighed at once. */
    private static final class Weights {
        // The most a CODE BIT is sent: 9 SENDINGS of 60 over a ring of 13, 45 times.
        static final int DIGITS = 6;
        // Above every weight: 39 times 63.
        static final int HEAVIEST = 1000000;

        final long[] planes = new long[DIGITS];
        int depth;

        void take(int[] tally) {
            Arrays.fill(planes, 0L);
            depth = 0;
            for (int c = 0; c < CODE_BITS; c++) {
                for (int digit = 0; digit < DIGITS; digit++) {
                    if (((tally[c] >> digit) & 1) == 1) {
                        planes[digit] |= 1L << c;
                        depth = Math.max(depth, digit + 1);
                    }
                }
            }
        }

        int weigh(long bits) {
            int weight = 0;
            for (int digit = 0; digit < depth; digit++) {
                weight += Long.bitCount(bits & planes[digit]) << digit;
            }
            return weight;
        }

        /** The least weight of all but the first of a row. */
        int least(long[] others) {
            int least = HEAVIEST;
            for (int n = 1; n < others.length; n++) {
                least = Math.min(least, weigh(others[n]));
            }
            return least;
        }

        int howManyAt(long[] others, int weight) {
            int many = 0;
            for (int n = 1; n < others.length; n++) {
                if (weigh(others[n]) == weight) {
                    many++;
                }
            }
            return many;
        }
    }

    /** Finds WORDS by their SUMS. */
    private static final class Decoder {
        // Below every SUM: 39 times 9999.
        static final int BEYOND = -100000000;

        // By STEP and three bits (q, p, b): what that STEP adds to a SUM.
        final int[] gains = new int[8 * STEPS];
        final int[] sums = new int[WORDS];
        final int[] stateSums = new int[4];
        final int[] statePaths = new int[4];
        final int[] newSums = new int[4];
        final int[] newPaths = new int[4];

        private void measure(int[] soft) {
            for (int step = 0; step < STEPS; step++) {
                int a = soft[step];
                int b = soft[STEPS + step];
                int c = soft[2 * STEPS + step];
                int at = 8 * step;
                gains[at] = -a - b - c;
                gains[at + 1] = a + b + c;
                gains[at + 2] = -a + b - c;
                gains[at + 3] = a - b + c;
                gains[at + 4] = -a + b + c;
                gains[at + 5] = a - b - c;
                gains[at + 6] = -a - b + c;
                gains[at + 7] = a + b - c;
            }
        }

        /** What STEPS 11 and 12 add behind a WORD's last two bits. */
        private int tailGain(int lastTwo) {
            return gains[8 * 11 + ((lastTwo << 1) & 7)] + gains[8 * 12 + ((lastTwo << 2) & 7)];
        }

        /** SUMS of all WORDS, grown bit by bit from those of their beginnings. */
        void sumAll(int[] soft) {
            measure(soft);
            sums[0] = 0;
            for (int step = 0; step < WORD_STEPS; step++) {
                // Downwards, so that a beginning is overwritten only behind its last use.
                for (int start = (2 << step) - 1; start >= 0; start--) {
                    sums[start] = sums[start >> 1] + gains[8 * step + (start & 7)];
                }
            }
            for (int word = 0; word < WORDS; word++) {
                sums[word] += tailGain(word & 3);
            }
        }

        /** THE BEST, by the best beginning for each pair of last bits, of like ones the least. */
        int bestWord(int[] soft) {
            measure(soft);
            Arrays.fill(stateSums, BEYOND);
            Arrays.fill(statePaths, 0);
            stateSums[0] = 0;
            for (int step = 0; step < WORD_STEPS; step++) {
                for (int state = 0; state < 4; state++) {
                    extend(state, 8 * step);
                }
                System.arraycopy(newSums, 0, stateSums, 0, 4);
                System.arraycopy(newPaths, 0, statePaths, 0, 4);
            }
            int best = 0;
            int most = BEYOND;
            for (int state = 0; state < 4; state++) {
                int total = stateSums[state] + tailGain(state);
                if (total > most || total == most && statePaths[state] < best) {
                    most = total;
                    best = statePaths[state];
                }
            }
            return best;
        }

        /** The better of the two beginnings that lead to a pair of last bits. */
        private void extend(int state, int at) {
            int one = state >> 1;
            int other = one + 2;
            int oneSum = stateSums[one] + gains[at + state];
            int otherSum = stateSums[other] + gains[at + state + 4];
            boolean first = oneSum > otherSum || oneSum == otherSum && statePaths[one] < statePaths[other];
            newSums[state] = first ? oneSum : otherSum;
            newPaths[state] = (first ? statePaths[one] : statePaths[other]) << 1 | (state & 1);
        }

        /** The least WORD of the greatest SUM of all but one. */
        int greatestBut(int left) {
            int found = left == 0 ? 1 : 0;
            for (int word = found + 1; word < WORDS; word++) {
                if (word != left && sums[word] > sums[found]) {
                    found = word;
                }
            }
            return found;
        }

        /** The greatest SUM of WORDS that have a bit so. */
        int greatestWith(int shift, int bit) {
            int greatest = BEYOND;
            for (int word = 0; word < WORDS; word++) {
                if (((word >> shift) & 1) == bit) {
                    greatest = Math.max(greatest, sums[word]);
                }
            }
            return greatest;
        }
    }

    /** A PROCESS as THE SENDER has it. */
    private static final class Slot {
        int sn = NONE;
        int toggle;
        int tried;
        boolean asked;
        // Whether its latest SENDING was HEARD.
        boolean reached;
        // How often each CODE BIT was sent of its BLOCK.
        final int[] tally = new int[CODE_BITS];

        void begin() {
            letGo();
            toggle = 0;
            reached = false;
            Arrays.fill(tally, 0);
        }

        void letGo() {
            sn = NONE;
            tried = 0;
            asked = false;
        }

        void copyFrom(Slot other) {
            sn = other.sn;
            toggle = other.toggle;
            tried = other.tried;
            asked = other.asked;
            reached = other.reached;
            System.arraycopy(other.tally, 0, tally, 0, CODE_BITS);
        }
    }

    /** THE SENDER. */
    private static final class Sender {
        final Slot[] slots = new Slot[MOST_PROCESSES];
        final int[] loads = new int[MOST_WAITING];
        final int[] keptLoads = new int[SNS];
        final int[] confirmed = new int[SNS];
        final int[] againSns = new int[SNS];
        int loadCount;
        int againCount;
        int nextSn;
        int base;
        int dropped;
        int resets;

        Sender() {
            for (int p = 0; p < MOST_PROCESSES; p++) {
                slots[p] = new Slot();
            }
        }

        void begin() {
            for (int p = 0; p < MOST_PROCESSES; p++) {
                slots[p].begin();
            }
            loadCount = 0;
            againCount = 0;
            nextSn = 0;
            base = 0;
            dropped = 0;
            resets = 0;
        }

        void copyFrom(Sender other) {
            for (int p = 0; p < MOST_PROCESSES; p++) {
                slots[p].copyFrom(other.slots[p]);
            }
            System.arraycopy(other.loads, 0, loads, 0, MOST_WAITING);
            System.arraycopy(other.keptLoads, 0, keptLoads, 0, SNS);
            System.arraycopy(other.confirmed, 0, confirmed, 0, SNS);
            System.arraycopy(other.againSns, 0, againSns, 0, SNS);
            loadCount = other.loadCount;
            againCount = other.againCount;
            nextSn = other.nextSn;
            base = other.base;
            dropped = other.dropped;
            resets = other.resets;
        }

        int howManyKept() {
            return (nextSn - base) & 7;
        }

        boolean isKept(int sn) {
            return ((sn - base) & 7) < howManyKept();
        }

        boolean isClear() {
            return loadCount == 0 && base == nextSn;
        }

        /** Whether a PROCESS CAN SEND. */
        boolean isAble(int p, int window) {
            Slot slot = slots[p];
            if (slot.asked) {
                return false;
            }
            return slot.sn != NONE || againCount > 0 || loadCount > 0 && howManyKept() < window;
        }

        int wordOn(Slot slot) {
            return Code.wholeWord(slot.sn << 5 | keptLoads[slot.sn]);
        }

        /** An idle PROCESS that CAN SEND gets its BLOCK. */
        void fill(Slot slot) {
            slot.toggle = 1 - slot.toggle;
            slot.tried = 0;
            Arrays.fill(slot.tally, 0);
            if (againCount > 0) {
                slot.sn = againSns[0];
                againCount--;
                System.arraycopy(againSns, 1, againSns, 0, againCount);
                return;
            }
            slot.sn = nextSn;
            keptLoads[nextSn] = loads[0];
            confirmed[nextSn] = 0;
            loadCount--;
            System.arraycopy(loads, 1, loads, 0, loadCount);
            nextSn = (nextSn + 1) & 7;
        }

        /** A REPORT comes. */
        void learn(Receiver receiver) {
            int expected = receiver.expected;
            againCount = 0;
            if (((expected - base) & 7) > howManyKept()) {
                resets++;
                nextSn = expected;
            }
            base = expected;
            // Behind a RESET none are KEPT, so this makes all PROCESSES idle then.
            int busy = 0;
            for (int p = 0; p < MOST_PROCESSES; p++) {
                Slot slot = slots[p];
                if (slot.sn != NONE && !isKept(slot.sn)) {
                    slot.letGo();
                }
                if (slot.sn != NONE) {
                    busy |= 1 << slot.sn;
                }
            }
            int many = howManyKept();
            for (int d = 0; d < many; d++) {
                int sn = (base + d) & 7;
                confirmed[sn] = receiver.shelf[sn] != NONE ? 1 : 0;
                if (confirmed[sn] == 0 && ((busy >> sn) & 1) == 0) {
                    againSns[againCount] = sn;
                    againCount++;
                }
            }
        }
    }

    /** A PROCESS as THE RECEIVER has it; SOFT numbers are MISSING till it saw a TOGGLE. */
    private static final class Ear {
        int saw = NONE;
        int bursts;
        boolean has;
        final int[] soft = new int[CODE_BITS];

        void begin(int toggle) {
            saw = toggle;
            bursts = 0;
            has = false;
            Arrays.fill(soft, 0);
        }

        void copyFrom(Ear other) {
            saw = other.saw;
            bursts = other.bursts;
            has = other.has;
            System.arraycopy(other.soft, 0, soft, 0, CODE_BITS);
        }
    }

    /** THE RECEIVER. */
    private static final class Receiver {
        static final int GIVEN_OUT = 0;
        static final int PUT_BY = 1;
        static final int SEEN_TWICE = 2;
        static final int TOO_LATE = 3;

        final Ear[] ears = new Ear[MOST_PROCESSES];
        // LOADS that are STORED, by SN; NONE: none is.
        final int[] shelf = new int[SNS];
        final int[] out = new int[GIVEN_KEPT];
        int expected;
        // 0: the TIMER doesn't run.
        int timer;
        // How far MARK is from EXPECTED.
        int markAhead;
        int givenTotal;
        int lost;
        int late;
        int twice;
        int repeated;

        Receiver() {
            for (int p = 0; p < MOST_PROCESSES; p++) {
                ears[p] = new Ear();
            }
            Arrays.fill(shelf, NONE);
        }

        void begin() {
            for (int p = 0; p < MOST_PROCESSES; p++) {
                ears[p].begin(NONE);
            }
            Arrays.fill(shelf, NONE);
            expected = 0;
            timer = 0;
            markAhead = 0;
            givenTotal = 0;
            lost = 0;
            late = 0;
            twice = 0;
            repeated = 0;
        }

        void copyFrom(Receiver other) {
            for (int p = 0; p < MOST_PROCESSES; p++) {
                ears[p].copyFrom(other.ears[p]);
            }
            System.arraycopy(other.shelf, 0, shelf, 0, SNS);
            System.arraycopy(other.out, 0, out, 0, GIVEN_KEPT);
            expected = other.expected;
            timer = other.timer;
            markAhead = other.markAhead;
            givenTotal = other.givenTotal;
            lost = other.lost;
            late = other.late;
            twice = other.twice;
            repeated = other.repeated;
        }

        /** What becomes of a BLOCK of an SN that COMES. */
        int fateOf(int sn, int window) {
            int d = (sn - expected) & 7;
            if (d >= window) {
                return TOO_LATE;
            }
            if (shelf[sn] != NONE) {
                return SEEN_TWICE;
            }
            return d == 0 ? GIVEN_OUT : PUT_BY;
        }

        /** A BLOCK COMES; settle() is due behind it. */
        void shelve(int sn, int load, int window) {
            int fate = fateOf(sn, window);
            if (fate == TOO_LATE) {
                late++;
            } else if (fate == SEEN_TWICE) {
                twice++;
            } else {
                shelf[sn] = load;
            }
        }

        void settle(int wait) {
            for (int n = 0; n < SNS && shelf[expected] != NONE; n++) {
                moveOn();
            }
            int farthest = farthestStored();
            if (timer == 0 && farthest != NONE) {
                timer = wait;
                markAhead = farthest + 1;
            }
        }

        /** The EXPECTED one is GIVEN, or LOST if it isn't STORED. */
        private void moveOn() {
            int load = shelf[expected];
            if (load == NONE) {
                lost++;
            } else {
                out[givenTotal & (GIVEN_KEPT - 1)] = load;
                givenTotal++;
                shelf[expected] = NONE;
            }
            expected = (expected + 1) & 7;
            if (timer > 0) {
                markAhead--;
                if (markAhead <= 0) {
                    timer = 0;
                }
            }
        }

        /** A TICK. */
        void passTime(int wait) {
            if (timer == 0) {
                return;
            }
            timer--;
            if (timer > 0) {
                return;
            }
            for (int left = markAhead; left > 0; left--) {
                moveOn();
            }
            settle(wait);
        }

        /** How far the farthest STORED one is from EXPECTED, or NONE. */
        int farthestStored() {
            int farthest = NONE;
            for (int d = 0; d < SNS; d++) {
                if (shelf[(expected + d) & 7] != NONE) {
                    farthest = d;
                }
            }
            return farthest;
        }

        int firstStored() {
            for (int d = 0; d < SNS; d++) {
                int sn = (expected + d) & 7;
                if (shelf[sn] != NONE) {
                    return sn;
                }
            }
            return NONE;
        }

        int howManyStored() {
            int many = 0;
            for (int sn = 0; sn < SNS; sn++) {
                if (shelf[sn] != NONE) {
                    many++;
                }
            }
            return many;
        }

        /** How many STORED ones follow EXPECTED without a gap. */
        int readyBehindExpected() {
            int many = 0;
            while (many < SNS - 1 && shelf[(expected + 1 + many) & 7] != NONE) {
                many++;
            }
            return many;
        }

        /** The i-th latest LOAD that was GIVEN (0 the latest), or NONE. */
        int givenAgo(int i) {
            if (i < 0 || i >= givenTotal || i >= GIVEN_KEPT) {
                return NONE;
            }
            return out[(givenTotal - 1 - i) & (GIVEN_KEPT - 1)];
        }

        /** Its part of count(). */
        int tell(int what) {
            switch (what) {
                case 4:
                    return expected;
                case 5:
                    return howManyStored();
                case 6:
                    return timer > 0 ? timer : NONE;
                case 7:
                    return timer > 0 ? (expected + markAhead) & 7 : NONE;
                case 8:
                    return givenTotal;
                case 9:
                    return lost;
                case 10:
                    return late;
                case 11:
                    return twice;
                case 14:
                    return repeated;
                default:
                    return NONE;
            }
        }
    }

    /** THE LINK: all that an IMAGE holds. */
    private static final class Link {
        int processes = 4;
        int window = 4;
        int wait = 12;
        int tries = 4;
        int room = PLACES;
        int limit = 500;
        int fade = 20;
        final Sender sender = new Sender();
        final Receiver receiver = new Receiver();

        /** All as at first, but for the numbers that link() sets. */
        void begin() {
            limit = 500;
            fade = 20;
            sender.begin();
            receiver.begin();
        }

        void copyFrom(Link other) {
            processes = other.processes;
            window = other.window;
            wait = other.wait;
            tries = other.tries;
            room = other.room;
            limit = other.limit;
            fade = other.fade;
            sender.copyFrom(other.sender);
            receiver.copyFrom(other.receiver);
        }

        /** 1: YES is read, 0: NO, NONE: nothing. */
        int readAnswer(int p, int how) {
            Slot slot = sender.slots[p];
            int read = NONE;
            if (how != NOTHING_READ && slot.reached) {
                read = receiver.ears[p].has ? 1 : 0;
            }
            if (how == MISREAD) {
                read = read == 1 ? 0 : 1;
            }
            slot.asked = false;
            if (read == 1) {
                slot.letGo();
            } else if (slot.tried >= tries) {
                slot.letGo();
                sender.dropped++;
            }
            return read;
        }
    }

    /** What goes over a LINK: SENDINGS and rounds of them. */
    private static final class Air {
        final Code code;
        final Ring ring;
        final Decoder decoder;
        // The noise of the next SENDING, then its values as they are HEARD.
        final int[] values = new int[LONGEST];
        // CLEAN ROUNDS are judged on this one, so that THE LINK itself stays as it is.
        final Link trial = new Link();
        // DRAWS go on from here.
        int x;

        Air(Code code, Ring ring, Decoder decoder) {
            this.code = code;
            this.ring = ring;
            this.decoder = decoder;
        }

        static int within(int value, int bound) {
            return Math.max(-bound, Math.min(bound, value));
        }

        void quiet() {
            Arrays.fill(values, 0);
        }

        /** A PROCESS that CAN SEND SENDS, with the noise in values: 1: THE RECEIVER HAS one then, 0: not, NONE: not HEARD. */
        int transmit(Link link, int p, int length, boolean passes) {
            Slot slot = link.sender.slots[p];
            if (slot.sn == NONE) {
                link.sender.fill(slot);
            }
            ring.lay(link.room, VERSION_ORDER[slot.tried & 3], length);
            ring.addTo(slot.tally, length);
            slot.tried++;
            slot.asked = true;
            slot.reached = passes && link.fade > 0;
            if (!slot.reached) {
                return NONE;
            }
            long bits = code.words[link.sender.wordOn(slot)];
            for (int i = 0; i < length; i++) {
                int clean = Code.isOne(bits, ring.row[i]) ? link.fade : -link.fade;
                values[i] = within(clean + values[i], TOP_VALUE);
            }
            return hear(link, p, slot.toggle, length);
        }

        /** THE RECEIVER hears the values for the row that was laid out last: 1: it HAS one then, 0: not. */
        int hear(Link link, int p, int toggle, int length) {
            Receiver receiver = link.receiver;
            Ear ear = receiver.ears[p];
            if (ear.saw != toggle) {
                ear.begin(toggle);
            }
            if (ear.has) {
                receiver.repeated++;
                return 1;
            }
            ear.bursts++;
            for (int i = 0; i < length; i++) {
                int c = ring.row[i];
                ear.soft[c] = within(ear.soft[c] + values[i], link.limit);
            }
            int best = decoder.bestWord(ear.soft);
            if (!Code.isWhole(best)) {
                return 0;
            }
            ear.has = true;
            receiver.shelve((best >> 8) & 7, (best >> 3) & TOP_LOAD, link.window);
            receiver.settle(link.wait);
            return 1;
        }

        /** Adds the row that was laid out last, without noise. */
        void addClean(int[] soft, long bits, int length, int strength, int limit) {
            for (int i = 0; i < length; i++) {
                int c = ring.row[i];
                soft[c] = within(soft[c] + (Code.isOne(bits, c) ? strength : -strength), limit);
            }
        }

        private int draw() {
            x = 1103515245 * x + 12345;
            return x >>> 16;
        }

        /** Round k of a RUN. */
        void drawnRound(Link link, int k, int length, int noise) {
            int p = k % Math.max(1, link.processes);
            if (link.sender.slots[p].asked) {
                int drawn = draw() & 7;
                link.readAnswer(p, drawn == 0 ? MISREAD : drawn == 1 ? NOTHING_READ : AS_IT_IS);
            }
            if (link.sender.isAble(p, link.window)) {
                boolean passes = (draw() & 15) != 0;
                for (int i = 0; i < length; i++) {
                    values[i] = draw() % (2 * noise + 1) - noise;
                }
                transmit(link, p, length, passes);
            }
            link.receiver.passTime(link.wait);
            if ((k & 7) == 7) {
                link.sender.learn(link.receiver);
            }
        }

        private void cleanRound(Link link, int how) {
            for (int p = 0; p < link.processes; p++) {
                if (link.sender.slots[p].asked) {
                    link.readAnswer(p, how);
                }
                if (link.sender.isAble(p, link.window)) {
                    quiet();
                    transmit(link, p, CLEAN_LENGTH, true);
                }
            }
            link.receiver.passTime(link.wait);
            link.sender.learn(link.receiver);
        }

        /** How many CLEAN ROUNDS, in round r all misread if bit r is 1, till all has come; NONE: not by the 30th. */
        int roundsTillClear(Link link, int misreads) {
            trial.copyFrom(link);
            trial.fade = CLEAN_FADE;
            for (int r = 0; r < CLEAN_ROUNDS; r++) {
                if (trial.sender.isClear()) {
                    return r;
                }
                cleanRound(trial, ((misreads >> r) & 1) == 1 ? MISREAD : AS_IT_IS);
            }
            return trial.sender.isClear() ? CLEAN_ROUNDS : NONE;
        }
    }

    /** TRAYS of bytes; a size of NONE: it is MISSING. */
    private static final class Trays {
        final byte[][] rows = new byte[TRAYS][LONGEST];
        final int[] sizes = {NONE, NONE, NONE, NONE};

        boolean isMissing(int tray) {
            return sizes[tray] == NONE;
        }
    }
}
