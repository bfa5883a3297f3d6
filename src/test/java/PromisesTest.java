/** Each promise of the document by number: what is usual, the edges, and what is refused. */
public final class PromisesTest {
    private static final int NONE = FadeJoiner.NONE;
    private static int wrong = 0;
    private static int promise = 0;
    private static int told = 0;
    private static FadeJoiner x;

    private static void begin(int number) {
        promise = number;
        told = 0;
        x = new FadeJoiner();
    }

    /** The answers that are due, one pair of an answer and what is due behind the other. */
    private static void due(long... pairs) {
        for (int i = 0; i < pairs.length; i += 2) {
            told++;
            if (pairs[i] != pairs[i + 1]) {
                wrong++;
                System.out.println("promise " + promise + ", answer " + told + ": " + pairs[i] + ", due is " + pairs[i + 1]);
            }
        }
    }

    public static void main(String[] args) {
        newObject();
        words();
        places();
        sendings();
        distances();
        lengthsAndVersions();
        weakValues();
        links();
        limitsAndFades();
        offers();
        sends();
        answers();
        misreadAnswers();
        bursts();
        ticks();
        reports();
        resets();
        runs();
        drains();
        drainsTooLong();
        worsts();
        processes();
        keptOnes();
        rows();
        nexts();
        enoughs();
        softs();
        sums();
        leansAndTies();
        ranks();
        signs();
        storedOnes();
        givens();
        woulds();
        trays();
        listings();
        images();
        counts();
        System.out.println(wrong == 0 ? "all promises hold here" : wrong + " answers are not as due");
        System.exit(wrong == 0 ? 0 : 1);
    }

    private static void offerAll(int... loads) {
        for (int load : loads) {
            x.offer(load);
        }
    }

    /** A TRAY with the clean values of a WORD by a VERSION, of a strength. */
    private static void layWord(int tray, int word, int version, int length, int strength) {
        x.tray(tray, length);
        for (int i = 0; i < length; i++) {
            x.write(tray, i, (x.bits(word) >> x.sent(version, length, i) & 1) == 1 ? strength : -strength);
        }
    }

    /** A BLOCK from elsewhere COMES by a PROCESS, by the TOGGLE that it didn't see. */
    private static int bring(int p, int sn, int load) {
        layWord(3, x.word(sn, load), 0, 13, 9);
        return x.burst(p, 0, x.heard(p, 0) == 0 ? 1 : 0, 3);
    }

    private static void newObject() {
        begin(1);
        int[] first = {0, 0, 0, 0, 0, 0, NONE, NONE, 0, 0, 0, 0, 0, 0, 0, 4, 4, 48, 500, 20};
        for (int what = 0; what < first.length; what++) {
            due(x.count(what), first[what]);
        }
        for (int p = 0; p < 4; p++) {
            due(x.process(p, 0), NONE, x.process(p, 2), 0, x.process(p, 4), 0, x.heard(p, 0), NONE, x.best(p), -6);
        }
        due(x.process(4, 0), -2, x.write(0, 0, 0), -1006, x.restore(0), -5, x.restore(1), -5);
    }

    private static void words() {
        begin(2);
        due(x.word(0, 0), 5, x.word(0, 1), 14, x.word(7, 31), 2046, x.word(1, 0), 263);
        due(x.word(8, 0), -3, x.word(-1, 0), -3, x.word(0, 32), -3, x.word(0, -1), -3);
        begin(3);
        int many = 0;
        for (int w = 0; w < 2048; w++) {
            many += new FadeJoiner().whole(w);
        }
        due(many, 256);
        for (int sn = 0; sn < 8; sn++) {
            x = new FadeJoiner();
            for (int load = 0; load < 32; load++) {
                due(x.whole(x.word(sn, load)), 1, x.word(sn, load) >> 3, 32 * sn + load);
            }
        }
        due(x.whole(5), 1, x.whole(4), 0, x.whole(2048), -3, x.whole(-1), -3);
        begin(4);
        // The WORD 1024: its only 1 in STEP 0; STREAM 1 has 1 in STEPS 0, 1, 2, STREAM 2 in 0 and 2.
        due(x.bits(1024), 1L | 7L << 13 | 5L << 26, x.bits(1), 1L << 10 | 7L << 23 | 5L << 36);
        due(x.bits(1025), x.bits(1024) ^ x.bits(1), x.bits(0), 0, x.bits(5), 292114400512L);
        due(x.bits(1536), 3L | 9L << 13 | 15L << 26);
        due(x.bits(-1), -3, x.bits(2048), -3);
    }

    private static void places() {
        begin(5);
        int[] firstStream = {-1, 1, 5, 9, -1, 3, 7, 11, -1, 2, 6, 10, 0, 4, 8, 12};
        for (int n = 0; n < 16; n++) {
            int bit = firstStream[n];
            due(x.place(n), bit);
            due(x.place(16 + 2 * n), bit == NONE ? NONE : bit + 13, x.place(17 + 2 * n), bit == NONE ? NONE : bit + 26);
        }
        due(x.place(-1), -2, x.place(48), -2);
        x.link(4, 4, 12, 4, 20);
        due(x.place(19), 27, x.place(20), -2);
    }

    private static void sendings() {
        begin(6);
        due(x.sent(0, 60, 0), 1, x.sent(0, 60, 38), 38, x.sent(0, 60, 39), 1, x.sent(1, 60, 0), 0, x.sent(2, 1, 0), 16);
        due(x.sent(3, 60, 12), 1, x.sent(3, 60, 51), 1, x.sent(0, 5, 4), 7, x.sent(0, 5, 5), NONE);
        due(x.sent(0, 5, Integer.MAX_VALUE), NONE, x.sent(0, 5, -1), -3, x.sent(0, 0, 0), -3, x.sent(0, 61, 0), -3);
        due(x.sent(4, 0, -1), -2, x.sent(-1, 5, 0), -2);
        // 19 by 4, cut: VERSIONS begin at PLACES 0, 4, 9, 14.
        x.link(1, 1, 1, 1, 19);
        due(x.sent(0, 9, 0), 1, x.sent(1, 9, 0), 3, x.sent(2, 9, 0), 2, x.sent(3, 9, 0), 8, x.sent(3, 9, 2), 14, x.sent(3, 9, 3), 1);
        begin(7);
        due(x.covers(0, 60), 0, x.covers(1, 38), 38, x.covers(1, 39), 39, x.covers(1, 60), 39, x.covers(3, 13), 22);
        due(x.covers(-1, 5), -3, x.covers(16, 5), -3, x.covers(1, 0), -3, x.covers(1, 61), -3);
        begin(8);
        due(x.lacks(0, 60), (1L << 39) - 1, x.lacks(1, 38), 1L << 38, x.lacks(1, 13), ((1L << 26) - 1) << 13);
        due(x.lacks(1, 39), 0, x.lacks(2, 1), (1L << 39) - 2, x.lacks(16, 1), -3, x.lacks(1, 61), -3, x.lacks(-1, 1), -3);
        x.link(1, 1, 1, 1, 16);
        due(x.lacks(15, 60), ((1L << 26) - 1) << 13);
    }

    private static void distances() {
        begin(9);
        due(x.between(0, 1024, 1, 39), 6, x.between(1024, 0, 3, 39), 12, x.between(0, 1024, 15, 39), 24, x.between(7, 7, 15, 60), 0);
        // 60 values by VERSION 0: 39, then 21 more from its begin.
        due(x.between(0, 1024, 1, 60), 6 + x.between(0, 1024, 1, 21), x.between(0, 5, 0, 9), 0);
        due(x.between(-1, 0, 1, 1), -3, x.between(0, 2048, 1, 1), -3, x.between(0, 0, 16, 1), -3, x.between(0, 0, 1, 0), -3);
        begin(10);
        due(x.distance(1, 13, 0), 1, x.distance(1, 13, 1), 2, x.distance(1, 13, 2), 11, x.distance(1, 13, 3), 4);
        due(x.distance(1, 39, 0), 6, x.distance(1, 39, 1), 10, x.distance(1, 39, 2), 11, x.distance(15, 39, 1), 40);
        due(x.distance(0, 1, 1), 0, x.distance(0, 1, 3), 255, x.distance(0, 1, 2), 2047, x.distance(1, 1, 2), 1023);
        due(x.distance(1, 1, 3), 127, x.distance(16, 0, -1), -2, x.distance(1, 1, 4), -2, x.distance(16, 1, 0), -3, x.distance(1, 61, 3), -3);
    }

    private static void lengthsAndVersions() {
        begin(11);
        due(x.shortest(1, 1), 9, x.shortest(5, 6), 16, x.shortest(15, 20), 21, x.shortest(1, 10), 39, x.shortest(1, 60), NONE, x.shortest(15, 60), 60);
        due(x.shortest(0, 1), NONE, x.shortest(16, 1), -3, x.shortest(-1, 1), -3, x.shortest(1, 0), -3, x.shortest(1, 61), -3);
        for (int d = 1; d <= 12; d++) {
            int length = x.shortest(6, d);
            due(x.distance(6, length, 1) >= d ? 1 : 0, 1, x.distance(6, length - 1, 1) < d ? 1 : 0, 1);
        }
        begin(12);
        due(x.versions(13, 1), 1, x.versions(13, 5), 6, x.versions(20, 12), 7, x.versions(1, 60), NONE, x.versions(60, 60), 15);
        due(x.versions(0, 1), -3, x.versions(61, 1), -3, x.versions(1, 0), -3, x.versions(1, 61), -3);
    }

    private static void weakValues() {
        begin(13);
        due(x.weak(5, 0, 39), 0, x.weak(0, 0, 1), 1, x.weak(512, 0, 1), 1, x.weak(5, 0, 13), 11, x.weak(2047, 0, 1), 1);
        // All 0 by STREAM 0 alone: a value turned in STEPS 0 to 10 makes another WORD THE BEST, in 11 and 12 none.
        due(x.weak(0, 0, 13), 11);
        // Each CODE BIT of STREAM 0 sent twice: one turned makes both ways alike, and the least WORD is THE BEST.
        x.link(1, 1, 1, 1, 16);
        due(x.weak(0, 0, 26), 0, x.weak(2047, 0, 26), 22, x.weak(2047, 0, 39), 0);
        due(x.weak(2048, 4, 0), -2, x.weak(0, -1, 1), -2, x.weak(2048, 0, 1), -3, x.weak(-1, 0, 1), -3, x.weak(0, 0, 0), -3, x.weak(0, 0, 61), -3);
    }

    private static void links() {
        begin(14);
        offerAll(1, 2);
        x.send(0, 39, NONE);
        x.limit(7);
        x.fade(3);
        x.tray(2, 5);
        x.image(1);
        int[][] refused = {{0, 4, 12, 4, 48}, {9, 4, 12, 4, 48}, {4, 0, 12, 4, 48}, {4, 5, 12, 4, 48}, {4, 4, 0, 4, 48},
            {4, 4, 61, 4, 48}, {4, 4, 12, 0, 48}, {4, 4, 12, 9, 48}, {4, 4, 12, 4, 15}, {4, 4, 12, 4, 49}};
        for (int[] a : refused) {
            due(x.link(a[0], a[1], a[2], a[3], a[4]), -3);
        }
        due(x.count(0), 1, x.count(8), 1, x.count(18), 7, x.process(0, 0), 0);
        due(x.link(8, 1, 60, 8, 16), 0, x.count(0), 0, x.count(1), 0, x.count(8), 0, x.given(0), NONE, x.count(4), 0);
        due(x.count(15), 8, x.count(16), 1, x.count(17), 16, x.count(18), 500, x.count(19), 20, x.process(7, 0), NONE);
        due(x.process(0, 2), 0, x.best(0), -6, x.heard(0, 1), 0, x.kept(0, 0), NONE, x.write(2, 4, 9), 9);
        due(x.restore(0), -5, x.restore(1), 0, x.count(15), 4, x.count(18), 7, x.count(19), 3, x.given(0), 1);
    }

    private static void limitsAndFades() {
        begin(15);
        x.offer(0);
        x.send(0, 39, NONE);
        due(x.limit(9999), 500, x.limit(1), 9999, x.limit(5), 1, x.limit(0), -3, x.limit(10000), -3, x.count(18), 5);
        // SOFT stays till it is added to; 20 and 1 are kept to 5 then.
        due(x.soft(0, 0), -20);
        x.tray(0, 1);
        x.write(0, 0, 1);
        due(x.burst(0, 0, 1, 0), 1, x.soft(0, 1), -20, x.burst(0, 0, 0, 0), 0, x.soft(0, 1), 1);
        layWord(0, 0, 0, 39, 100);
        x.limit(60);
        due(x.burst(1, 0, 0, 0), 0, x.soft(1, 1), -60, x.limit(50), 60, x.soft(1, 1), -60);
        x.tray(0, 1);
        due(x.burst(1, 0, 0, 0), 0, x.soft(1, 1), -50, x.soft(1, 5), -60, x.limit(9999), 50);
        begin(16);
        due(x.fade(0), 20, x.fade(60), 0, x.fade(61), -3, x.fade(-1), -3, x.count(19), 60);
        x.offer(0);
        x.send(0, 39, NONE);
        due(x.soft(0, 0), -60);
    }

    private static void offers() {
        begin(17);
        for (int n = 1; n <= 20; n++) {
            due(x.offer(n), n);
        }
        due(x.offer(3), -4, x.offer(32), -3, x.offer(-1), -3, x.count(0), 20, x.waiting(19), 20, x.send(0, 1, NONE), 0, x.offer(31), 20);
    }

    private static void sends() {
        begin(18);
        due(x.send(0, 39, NONE), -5);
        offerAll(4, 31, 0, 8, 9);
        due(x.send(-1, 39, NONE), -2, x.send(4, 0, 9), -2, x.send(0, 0, -2), -2, x.send(0, 0, 4), -2, x.send(0, 0, 0), -3, x.send(0, 61, NONE), -3);
        due(x.send(0, 39, 0), -6, x.count(0), 5, x.send(0, 39, NONE), 1, x.process(0, 2), 1, x.send(0, 39, NONE), -5);
        due(x.send(0, 39, 3), -6);
        // An empty TRAY: no noise; noise round and round; values from -127 to 127.
        x.tray(0, 0);
        due(x.send(1, 39, 0), 1, x.soft(1, 0), -20);
        x.tray(1, 2);
        x.write(1, 0, 127);
        x.write(1, 1, -128);
        // SN 2, LOAD 0: the WORD 513; 1 in STEP 1, 0 in STEPS 5 and 9.
        due(x.send(2, 3, 1), 0, x.soft(2, 1), 127, x.soft(2, 5), -127, x.soft(2, 9), 107, x.soft(2, 3), 0);
        x.fade(0);
        due(x.send(3, 39, NONE), NONE, x.heard(3, 0), NONE, x.process(3, 3), 1, x.process(3, 4), 1, x.count(1), 4);
        // The WINDOW is full: no new BLOCK, but the one that it has goes again.
        x.answer(0, 0);
        due(x.send(0, 39, NONE), -5, x.answer(2, 0), 0, x.fade(20), 0, x.send(2, 39, NONE), 1, x.process(2, 3), 2);
        due(x.count(0), 1);
    }

    private static void answers() {
        begin(19);
        offerAll(1, 2, 3);
        due(x.answer(4, 3), -2, x.answer(-1, 0), -2, x.answer(0, 3), -3, x.answer(0, -1), -3, x.answer(0, 0), -5);
        x.send(0, 39, NONE);
        due(x.answer(0, 0), 1, x.process(0, 0), NONE, x.process(0, 4), 0, x.answer(0, 0), -5, x.kept(0, 0), 1);
        x.send(0, 3, NONE);
        due(x.answer(0, 0), 0, x.process(0, 0), 1, x.process(0, 3), 1, x.process(0, 4), 0);
        x.fade(0);
        x.send(0, 39, NONE);
        due(x.answer(0, 0), NONE, x.process(0, 3), 2);
        x.fade(20);
        x.send(0, 39, NONE);
        due(x.answer(0, 2), NONE, x.process(0, 0), 1, x.process(0, 3), 3, x.count(12), 0);
        x.send(0, 39, NONE);
        due(x.process(0, 3), 4, x.answer(0, 2), NONE, x.process(0, 0), NONE, x.count(12), 1, x.kept(1, 0), 2, x.count(3), 0);
    }

    private static void misreadAnswers() {
        begin(19);
        x.link(2, 4, 12, 2, 48);
        offerAll(1, 2, 3);
        x.send(0, 39, NONE);
        due(x.answer(0, 1), 0, x.process(0, 0), 0);
        x.send(0, 39, NONE);
        due(x.count(14), 1, x.answer(0, 1), 0, x.process(0, 0), NONE, x.count(12), 1);
        x.send(1, 3, NONE);
        due(x.answer(1, 1), 1, x.process(1, 0), NONE, x.count(12), 1);
        x.fade(0);
        x.send(1, 39, NONE);
        due(x.answer(1, 1), 1, x.process(1, 0), NONE, x.kept(2, 0), 3);
        // The ANSWER is as THE RECEIVER is when it is read: a foreign burst has made it HAVE one.
        begin(19);
        x.offer(5);
        x.send(0, 1, NONE);
        layWord(0, x.word(0, 5), 0, 39, 50);
        due(x.burst(0, 0, 1, 0), 1, x.answer(0, 0), 1);
    }

    private static void bursts() {
        begin(20);
        x.tray(0, 0);
        layWord(1, x.word(0, 9), 2, 39, 11);
        due(x.burst(4, 0, 0, 1), -2, x.burst(-1, 0, 0, 1), -2, x.burst(0, 4, 0, 1), -2, x.burst(0, -1, 0, 1), -2, x.burst(0, 0, 2, 1), -2);
        due(x.burst(0, 0, -1, 1), -2, x.burst(0, 0, 0, 4), -2, x.burst(0, 0, 0, -1), -2, x.burst(0, 0, 0, 2), -6, x.burst(0, 0, 0, 0), -4);
        due(x.heard(0, 0), NONE, x.burst(0, 2, 0, 1), 1, x.given(0), 9, x.heard(0, 0), 0, x.heard(0, 1), 1, x.heard(0, 2), 1);
        due(x.count(1), 0, x.process(0, 2), 0, x.burst(0, 2, 0, 1), 1, x.count(14), 1, x.heard(0, 1), 1);
        x.tray(2, 60);
        x.write(2, 0, -128);
        due(x.burst(1, 0, 1, 2), 0, x.soft(1, 1), -128, x.soft(1, 2), 0, x.burst(1, 0, 1, 2), 0, x.soft(1, 1), -256, x.heard(1, 1), 2);
        due(x.burst(1, 0, 1, 2), 0, x.burst(1, 0, 1, 2), 0, x.soft(1, 1), -500);
        // 60 values: the first CODE BITS of the row come twice.
        for (int i = 0; i < 60; i++) {
            x.write(2, i, 3);
        }
        due(x.burst(1, 0, 0, 2), x.heard(1, 2), x.soft(1, 1), 6, x.soft(1, 38), 3, x.heard(1, 0), 0);
    }

    private static void ticks() {
        begin(21);
        x.link(4, 4, 3, 4, 48);
        due(x.tick(0), -3, x.tick(61), -3, x.tick(60), 0);
        due(bring(0, 2, 12), 1, x.count(6), 3, x.count(7), 3, x.count(5), 1);
        due(x.tick(1), 0, x.count(6), 2, bring(1, 3, 13), 1, x.count(7), 3, x.count(6), 2);
        // 0 and 1 are LOST, 2 is GIVEN by the TIMER, then 3 behind it; it doesn't run any more.
        due(x.tick(2), 2, x.count(9), 2, x.count(4), 4, x.given(0), 13, x.given(1), 12, x.count(6), NONE, x.count(7), NONE);
        // It runs anew for what is STORED behind another gap.
        due(bring(0, 5, 15), 1, x.count(7), 6, bring(1, 7, 17), 1, x.count(7), 6, x.tick(3), 1, x.count(4), 6, x.count(9), 3);
        due(x.count(6), 3, x.count(7), 0, x.tick(60), 1, x.count(4), 0, x.count(9), 4, x.count(8), 4, x.count(5), 0);
        // It stops when EXPECTED is MARK, and begins again, in full, for one that was STORED behind it.
        due(bring(0, 1, 1), 1, x.tick(2), 0, bring(1, 3, 3), 1, x.count(6), 1, x.count(7), 2, bring(2, 0, 0), 1);
        due(x.count(4), 2, x.count(6), 3, x.count(7), 4, bring(3, 2, 2), 1, x.count(6), NONE, x.count(4), 4, x.count(9), 4);
    }

    private static void reports() {
        begin(22);
        due(x.report(), 0);
        offerAll(10, 11, 12, 13, 14);
        x.fade(0);
        x.send(0, 39, NONE);
        x.answer(0, 1);
        x.fade(20);
        x.send(0, 39, NONE);
        x.send(1, 39, NONE);
        x.answer(1, 0);
        x.send(2, 1, NONE);
        // 0 is nowhere, 1 is STORED and on PROCESS 0, 2 is STORED and on none, 3 is on PROCESS 2.
        due(x.count(1), 4, x.count(2), 0, x.count(3), 0, x.report(), 1, x.again(0), 0, x.kept(1, 1), 1, x.kept(2, 1), 1, x.kept(3, 1), 0);
        due(x.process(0, 0), 1, x.process(0, 4), 1, x.count(2), 0, x.count(13), 0);
        // AGAIN goes ahead of what WAITS; then 0, 1, 2 are GIVEN, and the PROCESSES with these are idle.
        due(x.send(1, 39, NONE), 1, x.process(1, 0), 0, x.process(1, 1), 10, x.count(3), 0, x.count(8), 3, x.report(), 0);
        due(x.count(2), 3, x.process(0, 0), NONE, x.process(0, 4), 0, x.process(1, 0), NONE, x.process(2, 0), 3, x.kept(2, 0), NONE);
        due(x.kept(3, 0), 13, x.count(0), 1, x.answer(1, 0), -5);
        // One that was CONFIRMED and was LOST by the time isn't any more.
        due(x.count(10), 0, x.count(12), 0);
    }

    private static void resets() {
        begin(22);
        offerAll(1, 2, 3);
        x.fade(0);
        x.send(0, 39, NONE);
        x.send(1, 39, NONE);
        x.answer(0, 1);
        x.report();
        due(x.count(3), 1, bring(2, 0, 20), 1, bring(2, 1, 21), 1, bring(2, 2, 22), 1, x.count(4), 3, x.count(1), 2);
        due(x.report(), 0, x.count(13), 1, x.count(1), 3, x.count(2), 3, x.count(3), 0, x.process(1, 0), NONE, x.process(1, 4), 0);
        due(x.kept(0, 0), NONE, x.kept(1, 0), NONE, x.count(0), 1, x.process(1, 2), 1, x.report(), 0, x.count(13), 1);
        // EXPECTED at NEXT is no RESET.
        begin(22);
        x.offer(1);
        x.fade(0);
        x.send(0, 39, NONE);
        due(bring(1, 0, 20), 1, x.report(), 0, x.count(13), 0, x.count(2), 1, x.process(0, 0), NONE);
    }

    private static void runs() {
        begin(23);
        due(x.run(1, 0, 1, 0), -3, x.run(1, 61, 1, 0), -3, x.run(1, 1, 0, 0), -3, x.run(1, 1, 61, 0), -3, x.run(1, 1, 1, -1), -3, x.run(1, 1, 1, 128), -3);
        due(x.run(Integer.MIN_VALUE, 60, 60, 127), 0, x.run(Integer.MAX_VALUE, 1, 1, 0), 0);
        offerAll(1, 2, 3, 4, 5, 6);
        due(x.run(7, 20, 39, 30), 6, x.given(0), 6, x.given(5), 1);
        // Seed 0: the first DRAW is 12345 >>> 16, 0: the SENDING isn't HEARD, though FADE is 20.
        begin(23);
        x.offer(3);
        due(x.run(0, 1, 39, 0), 0, x.heard(0, 0), NONE, x.process(0, 3), 1, x.process(0, 4), 1, x.count(3), 0);
        // Seed 1: the DRAWS are 16838, 38526, 10113, ..: the noise of each value is a DRAW modulo 9, less 4.
        begin(23);
        x.offer(0);
        due(x.run(1, 1, 2, 4), 0, x.soft(0, 1), -20 + 38526 % 9 - 4, x.soft(0, 5), -20 + 10113 % 9 - 4);
        // A REPORT in round 7, not ahead of it, and a TICK in each.
        begin(23);
        x.link(2, 4, 60, 4, 48);
        bring(0, 1, 1);
        due(x.count(6), 60, x.run(3, 7, 39, 0), 0, x.count(6), 53);
        bring(0, 0, 0);
        due(x.count(4), 2, x.run(3, 7, 39, 0), 0, x.count(2), 0, x.run(3, 8, 39, 0), 0, x.count(2), 2, x.count(13), 1);
    }

    private static void drains() {
        begin(24);
        due(x.drain(), 0);
        offerAll(1, 2, 3, 4, 5, 6);
        // Four go in the first round, as the WINDOW allows; the rest behind the REPORT.
        due(x.drain(), 2, x.count(0), 6, x.count(8), 0);
        x.fade(0);
        due(x.drain(), 2, x.count(19), 0, x.send(0, 39, NONE), NONE, x.drain(), 2);
        x.link(1, 1, 12, 4, 48);
        offerAll(1, 2, 3, 4, 5, 6);
        due(x.drain(), 6, x.drained(5), 6);
        begin(25);
        offerAll(9, 8, 7, 6, 5);
        for (int i = 0; i < 5; i++) {
            due(x.drained(i), 9 - i);
        }
        due(x.drained(5), NONE, x.drained(Integer.MAX_VALUE), NONE, x.drained(-1), -3, x.count(8), 0);
        due(x.send(0, 39, NONE), 1, x.given(0), 9, x.drained(0), 8, x.drained(3), 5, x.drained(4), NONE);
    }

    /** A BLOCK that is KEPT but nowhere, a PROCESS spoilt for 8 SENDINGS, and 20 LOADS one by one: 31 rounds. */
    private static void spoilLongest() {
        x.link(1, 1, 60, 8, 48);
        x.offer(31);
        x.fade(0);
        x.send(0, 39, NONE);
        x.answer(0, 1);
        layWord(0, 0, 0, 39, 127);
        for (int n = 0; n < 4; n++) {
            x.burst(0, 0, 0, 0);
        }
        for (int n = 0; n < 20; n++) {
            x.offer(n);
        }
    }

    private static void drainsTooLong() {
        begin(24);
        spoilLongest();
        due(x.heard(0, 2), 0, x.drain(), NONE, x.drained(0), 31, x.drained(19), 18, x.drained(20), NONE);
        // One round gone by hand: 30 are left.
        due(x.report(), 1, x.drain(), 30, x.drained(20), 19, x.drained(21), NONE);
    }

    private static void worsts() {
        begin(26);
        due(x.worst(-1, 2), -2, x.worst(0, -1), -2, x.worst(-1, 0), -3, x.worst(4, 1), -3, x.worst(3, 0), 0, x.worst(3, 1), 0);
        offerAll(1, 2, 3, 4, 5, 6);
        due(x.worst(0, 0), 2, x.worst(0, 1), 0, x.worst(3, 0), 2);
        // An ANSWER to what wasn't HEARD, misread in the first round, takes the BLOCK off till the REPORT.
        x.link(1, 1, 12, 4, 48);
        x.offer(1);
        x.fade(0);
        x.send(0, 39, NONE);
        due(x.drain(), 1, x.worst(0, 0), 1, x.worst(1, 0), 2, x.worst(1, 1), 1, x.worst(3, 0), 2, x.worst(3, 1), 1);
        spoilLongest();
        due(x.worst(0, 0), NONE, x.worst(0, 1), 0, x.worst(3, 0), NONE, x.worst(3, 1), 0, x.count(0), 20);
        due(x.report(), 1, x.worst(0, 0), 30, x.drain(), 30);
    }

    private static void processes() {
        begin(27);
        offerAll(17, 18);
        x.fade(0);
        x.send(1, 39, NONE);
        due(x.process(1, 0), 0, x.process(1, 1), 17, x.process(1, 2), 1, x.process(1, 3), 1, x.process(1, 4), 1, x.process(1, 5), 2);
        int[] versions = {3, 1, 0};
        for (int n = 0; n < 3; n++) {
            x.answer(1, 0);
            due(x.process(1, 4), 0, x.send(1, 39, NONE), NONE, x.process(1, 3), n + 2, x.process(1, 5), versions[n]);
        }
        x.answer(1, 0);
        due(x.process(1, 0), NONE, x.process(1, 1), NONE, x.process(1, 2), 1, x.process(1, 3), 0, x.process(1, 4), 0, x.process(1, 5), NONE);
        due(x.send(1, 39, NONE), NONE, x.process(1, 0), 1, x.process(1, 2), 0, x.process(1, 3), 1);
        due(x.process(4, 0), -2, x.process(-1, 0), -2, x.process(0, 6), -2, x.process(0, -1), -2);
    }

    private static void keptOnes() {
        begin(28);
        offerAll(20, 21, 22);
        x.fade(0);
        x.send(0, 39, NONE);
        x.fade(20);
        x.send(1, 39, NONE);
        due(x.kept(0, 0), 20, x.kept(1, 0), 21, x.kept(1, 1), 0, x.kept(2, 0), NONE, x.kept(2, 1), NONE, x.kept(7, 0), NONE);
        x.report();
        due(x.kept(0, 1), 0, x.kept(1, 1), 1);
        due(x.kept(8, 0), -2, x.kept(-1, 0), -2, x.kept(0, 2), -2, x.kept(0, -1), -2);
        // No longer STORED, so no longer CONFIRMED: the TIMER has given 1 and lost 0, and BASE is behind both.
        x.tick(12);
        x.report();
        due(x.count(2), 2, x.kept(0, 0), NONE, x.kept(1, 1), NONE);
    }

    private static void rows() {
        begin(29);
        offerAll(1, 2, 3);
        x.fade(0);
        for (int p = 0; p < 3; p++) {
            x.send(p, 39, NONE);
            x.answer(p, 1);
        }
        due(x.again(0), NONE, x.report(), 3, x.again(0), 0, x.again(1), 1, x.again(2), 2, x.again(3), NONE, x.again(-1), -3);
        due(x.send(3, 39, NONE), NONE, x.process(3, 0), 0, x.again(0), 1, x.count(3), 2, x.again(2), NONE);
        begin(30);
        offerAll(7, 0, 31);
        due(x.waiting(0), 7, x.waiting(1), 0, x.waiting(2), 31, x.waiting(3), NONE, x.waiting(Integer.MAX_VALUE), NONE, x.waiting(-1), -3);
        x.send(0, 1, NONE);
        due(x.waiting(0), 0, x.waiting(2), NONE);
    }

    private static void nexts() {
        begin(31);
        x.offer(3);
        due(x.next(4, 0), -2, x.next(-1, 13), -2, x.next(0, 0), -3, x.next(0, 61), -3, x.next(0, 13), -5);
        // VERSION 0 by 39, then 2 by 13, then 3 by 5, HEARD or not.
        x.link(1, 1, 60, 8, 48);
        x.offer(3);
        x.send(0, 39, NONE);
        due(x.next(0, 39), farthestBy(39, 0, 39), x.next(0, 13), farthestBy(13, 0, 39), x.next(0, 1), farthestBy(1, 0, 39));
        x.fade(0);
        x.answer(0, 2);
        x.send(0, 13, NONE);
        due(x.next(0, 13), farthestBy(13, 0, 39, 2, 13), x.next(0, 26), farthestBy(26, 0, 39, 2, 13));
        x.answer(0, 2);
        x.send(0, 5, NONE);
        for (int length = 1; length <= 60; length++) {
            due(x.next(0, length), farthestBy(length, 0, 39, 2, 13, 3, 5));
        }
        // The next BLOCK begins anew.
        x.report();
        due(x.next(0, 13), -5);
        x.offer(4);
        x.send(0, 20, NONE);
        due(x.next(0, 13), farthestBy(13, 0, 20), x.next(0, 20), farthestBy(20, 0, 20));
    }

    /** The first VERSION that is farthest by a LENGTH, behind SENDINGS (VERSION, LENGTH, and so on), by between() alone. */
    private static int farthestBy(int length, int... sendings) {
        int chosen = NONE;
        int farthest = -1;
        for (int v = 0; v < 4; v++) {
            int least = Integer.MAX_VALUE;
            for (int other = 1; other < 256; other++) {
                FadeJoiner y = new FadeJoiner();
                int word = y.word(other >> 5, other & 31);
                int apart = y.between(5, word, 1 << v, length);
                for (int i = 0; i < sendings.length; i += 2) {
                    apart += y.between(5, word, 1 << sendings[i], sendings[i + 1]);
                }
                least = Math.min(least, apart);
            }
            if (least > farthest) {
                farthest = least;
                chosen = v;
            }
        }
        return chosen;
    }

    private static void enoughs() {
        begin(32);
        offerAll(31, 4);
        due(x.enough(4, 0, 1), -2, x.enough(0, 0, 1), -3, x.enough(0, 61, 1), -3, x.enough(0, 1, 0), -3, x.enough(0, 1, 61), -3, x.enough(0, 1, 1), -5);
        // Not HEARD: to SOFT of 0; VERSION 2 from now on.
        x.fade(0);
        x.send(0, 39, NONE);
        due(x.enough(0, 39, 1), 1, x.enough(0, 1, 60), NONE, x.soft(0, 0), -99000006);
        // SOFT at -10 all over, a LIMIT of 10: 1 each is too little, 2 are enough by the 6th.
        x.limit(10);
        x.fade(20);
        x.tray(0, 1);
        x.write(0, 0, -40);
        due(x.send(1, 39, 0), 0, x.enough(1, 39, 1), NONE, x.enough(1, 39, 2), 6, x.enough(1, 39, 20), 1, x.soft(1, 5), -10);
        // Also if it HAS one.
        x.answer(1, 0);
        due(x.send(1, 39, NONE), 1, x.enough(1, 39, 60), 1);
        // SOFT at -8: by 1 each all is 0 where the WORD has 1 at the 8th, and the least WORD is ahead; at -7 it is enough.
        x.limit(7);
        layWord(2, 0, 0, 39, 100);
        due(x.burst(1, 0, 0, 2), 0, x.burst(1, 0, 1, 2), 0, x.soft(1, 0), -7, x.enough(1, 39, 1), 8, x.limit(8), 7);
        due(x.burst(1, 0, 0, 2), 0, x.burst(1, 0, 1, 2), 0, x.soft(1, 0), -8, x.enough(1, 39, 1), NONE, x.limit(10), 8);
        // The other TOGGLE: as if from 0.
        x.image(0);
        x.link(1, 1, 1, 8, 26);
        // LOAD 8 of SN 0 is the WORD 64; VERSION 2 of 26 PLACES begins with its only 1, so one value is enough.
        x.offer(8);
        due(x.word(0, 8), 64, x.sent(2, 1, 0), 4, x.fade(0), 20, x.send(0, 1, NONE), NONE, x.enough(0, 1, 1), 1, x.restore(0), 0);
        x.limit(500);
        layWord(1, 0, 0, 39, 127);
        due(x.burst(1, 0, 0, 1), 0, x.enough(1, 39, 1), 1, x.burst(1, 0, 1, 1), 0, x.enough(1, 39, 1), NONE);
    }

    private static void softs() {
        begin(33);
        x.offer(9);
        due(x.soft(0, 0), -99000006, x.soft(4, 39), -99000002, x.soft(-1, 0), -99000002, x.soft(0, 39), -99000006);
        x.send(0, 20, NONE);
        // LOAD 9 is 01001, behind three 0: STEPS 4 and 7 are 1.
        due(x.soft(0, 0), -20, x.soft(0, 4), 20, x.soft(0, 7), 20, x.soft(0, 8), -20, x.soft(0, 13), 0, x.soft(0, 14), -20);
        due(x.soft(0, 39), -99000007, x.soft(0, -1), -99000007);
        begin(34);
        due(x.heard(0, 0), NONE, x.heard(0, 1), 0, x.heard(0, 2), 0, x.heard(4, 0), -2, x.heard(-1, 0), -2, x.heard(0, 3), -2, x.heard(0, -1), -2);
        x.offer(31);
        x.send(0, 1, NONE);
        due(x.heard(0, 0), 1, x.heard(0, 1), 1, x.heard(0, 2), 0);
        x.answer(0, 0);
        due(x.send(0, 39, NONE), 1, x.heard(0, 1), 2, x.heard(0, 2), 1);
        x.answer(0, 1);
        due(x.send(0, 39, NONE), 1, x.heard(0, 1), 2, x.count(14), 1);
    }

    private static void sums() {
        begin(35);
        due(x.best(4), -2, x.best(-1), -2, x.best(0), -6);
        x.tray(0, 1);
        // All SOFT 0: all WORDS are alike, the least is THE BEST.
        due(x.burst(0, 0, 0, 0), 0, x.best(0), 0);
        // CODE BIT 1 above 0: the least of the WORDS with 1 in STEP 1.
        x.write(0, 0, 1);
        due(x.burst(0, 0, 0, 0), 0, x.best(0), 512);
        begin(36);
        due(x.sum(4, 2048), -99000002, x.sum(0, 2048), -99000003, x.sum(0, -1), -99000003, x.sum(0, 0), -99000006);
        x.offer(9);
        x.send(0, 39, NONE);
        due(x.sum(0, 75), 780, x.sum(0, 11), 540, x.sum(0, 75 ^ 1), 780 - 6 * 40);
        begin(37);
        due(x.margin(4), -2, x.margin(0), -6);
        x.tray(0, 1);
        x.burst(1, 0, 0, 0);
        due(x.margin(1), 0);
        x.offer(9);
        x.send(0, 39, NONE);
        due(x.margin(0), 240);
        begin(38);
        due(x.second(4), -2, x.second(0), -6);
        x.tray(0, 1);
        x.burst(1, 0, 0, 0);
        due(x.second(1), 1);
        x.write(0, 0, 5);
        x.burst(1, 0, 0, 0);
        due(x.second(1), 513);
    }

    private static void leansAndTies() {
        begin(39);
        due(x.lean(4, 11), -99000002, x.lean(0, 11), -99000003, x.lean(0, -1), -99000003, x.lean(0, 0), -99000006);
        x.offer(9);
        x.send(0, 39, NONE);
        due(x.lean(0, 4), 240, x.lean(0, 0), -240, x.lean(0, 10), 240);
        x.tray(0, 1);
        x.write(0, 0, 4);
        x.burst(1, 0, 0, 0);
        due(x.lean(1, 1), 8, x.lean(1, 0), 0);
        begin(40);
        due(x.ties(4, 0), -2, x.ties(0, 2), -2, x.ties(0, -1), -2, x.ties(0, 0), -6);
        x.tray(0, 1);
        x.burst(0, 0, 0, 0);
        due(x.ties(0, 0), 2048, x.ties(0, 1), 256);
        x.write(0, 0, 4);
        x.burst(0, 0, 0, 0);
        due(x.ties(0, 0), 1024, x.ties(0, 1), 128);
        layWord(1, 0, 0, 13, 5);
        x.burst(1, 0, 0, 1);
        due(x.ties(1, 0), 1, x.ties(1, 1), 0);
    }

    private static void ranks() {
        begin(41);
        due(x.rank(4, 2048), -2, x.rank(0, 2048), -3, x.rank(0, -1), -3, x.rank(0, 0), -6);
        x.tray(0, 1);
        x.burst(0, 0, 0, 0);
        due(x.rank(0, 2047), 0);
        x.write(0, 0, 4);
        x.burst(0, 0, 0, 0);
        due(x.rank(0, 512), 0, x.rank(0, 0), 1024);
        layWord(1, 0, 0, 13, 5);
        x.burst(1, 0, 0, 1);
        // By STREAM 0 alone the SUM falls with the number of 1s.
        due(x.rank(1, 0), 0, x.rank(1, 64), 1, x.rank(1, 3), 12, x.rank(1, 2047), 2047);
        begin(42);
        due(x.listed(4, 256), -2, x.listed(0, 256), -3, x.listed(0, -1), -3, x.listed(0, 0), -6);
        x.tray(0, 1);
        x.burst(0, 0, 0, 0);
        due(x.listed(0, 0), 5, x.listed(0, 1), 14, x.listed(0, 255), 2046);
        layWord(1, 0, 0, 13, 5);
        x.burst(1, 0, 0, 1);
        // The fewest 1s first, of like ones the least.
        int last = -1;
        int ones = 0;
        for (int i = 0; i < 256; i++) {
            int word = x.listed(1, i);
            int more = Integer.bitCount(word);
            due(new FadeJoiner().whole(word), 1, more > ones || more == ones && word > last ? 1 : 0, 1);
            last = word;
            ones = more;
        }
    }

    private static void signs() {
        begin(43);
        due(x.against(4, 2048), -2, x.against(0, 2048), -3, x.against(0, -1), -3, x.against(0, 0), -6);
        x.offer(9);
        x.send(0, 39, NONE);
        due(x.against(0, 75), 0, x.against(0, 11), 6, x.against(0, 75 ^ 1024), 6);
        x.tray(0, 1);
        x.burst(1, 0, 0, 0);
        due(x.against(1, 2047), 0);
        begin(44);
        due(x.known(4, 0), -2, x.known(0, 2), -2, x.known(0, -1), -2, x.known(0, 0), -6);
        x.tray(0, 13);
        x.burst(0, 0, 0, 0);
        due(x.known(0, 0), 0, x.known(0, 1), 0);
        layWord(1, 0, 0, 13, 5);
        x.burst(0, 0, 0, 1);
        due(x.known(0, 0), 13, x.known(0, 1), 2);
        // Each CODE BIT counts once, however strong.
        x.burst(0, 0, 0, 1);
        due(x.known(0, 0), 13, x.known(0, 1), 2);
        layWord(1, 0, 0, 39, 5);
        x.burst(0, 0, 0, 1);
        due(x.known(0, 0), 39, x.known(0, 1), 10);
        begin(45);
        due(x.wrong(4), -2, x.wrong(0), -6);
        layWord(0, x.word(3, 3), 0, 39, 20);
        x.write(0, 7, -x.write(0, 7, x.sent(0, 39, 7) < 0 ? 0 : (x.bits(x.word(3, 3)) >> x.sent(0, 39, 7) & 1) == 1 ? 20 : -20));
        x.burst(0, 0, 0, 0);
        due(x.best(0), x.word(3, 3), x.wrong(0), 1, x.against(0, x.word(3, 3)), 1);
    }

    private static void storedOnes() {
        begin(46);
        due(x.stored(0), -6, x.stored(8), -7, x.stored(-1), -7);
        due(bring(0, 2, 12), 1, x.stored(2), 12, bring(1, 2, 13), 1, x.stored(2), 12, x.count(11), 1);
        due(bring(1, 0, 10), 1, x.stored(0), -6, bring(1, 1, 11), 1, x.stored(2), -6, x.given(0), 12);
        begin(47);
        due(x.gaps(-1), -2, x.gaps(3), -2, x.gaps(0), 0, x.gaps(1), NONE, x.gaps(2), 0);
        due(bring(0, 3, 13), 1, x.gaps(0), 3, x.gaps(1), 3, x.gaps(2), 4, bring(1, 1, 11), 1, x.gaps(0), 2, x.gaps(1), 1, x.gaps(2), 4);
        due(bring(1, 0, 10), 1, x.gaps(0), 1, x.gaps(1), 3, x.gaps(2), 2);
    }

    private static void givens() {
        begin(48);
        due(x.given(-1), -3, x.given(0), NONE);
        // How many are kept is held by ReceiverEdgesTest, in fewer calls.
        int[] loads = new int[100];
        for (int n = 0; n < loads.length; n++) {
            loads[n] = (n * 7 + n / 9) % 32;
            x.offer(loads[n]);
            due(x.send(0, 39, NONE), 1);
            x.report();
        }
        due(x.count(8), 100, x.given(100), NONE, x.given(255), NONE, x.given(Integer.MAX_VALUE), NONE);
        for (int i = 0; i < 100; i++) {
            due(x.given(i), loads[99 - i]);
        }
        offerAll(31, 30);
        due(x.drained(0), 31, x.drained(1), 30, x.drained(2), NONE);
    }

    private static void woulds() {
        begin(49);
        due(x.would(8, 0), -2, x.would(-1, 0), -2, x.would(0, 2), -2, x.would(0, -1), -2);
        due(bring(0, 1, 1), 1, bring(1, 2, 2), 1);
        due(x.would(0, 0), 0, x.would(0, 1), 3, x.would(1, 0), 2, x.would(1, 1), 0, x.would(3, 0), 1, x.would(3, 1), 0, x.would(4, 0), 3, x.would(7, 0), 3);
        due(x.count(11), 0, x.count(10), 0, x.count(8), 0, x.count(5), 2);
        due(bring(2, 4, 4), 1, x.count(10), 1, bring(2, 0, 0), 1, x.count(8), 3, x.would(2, 0), 3, x.would(3, 1), 1, x.would(6, 0), 1, x.would(7, 0), 3);
        x.link(4, 1, 12, 4, 48);
        due(x.would(0, 0), 0, x.would(1, 0), 3);
    }

    private static void trays() {
        begin(50);
        due(x.tray(4, 1), -2, x.tray(-1, 99), -2, x.tray(0, 61), -3, x.write(0, 0, 0), -1006, x.tray(0, 60), 0, x.write(0, 59, 5), 5);
        due(x.tray(0, -1), -3, x.tray(0, 61), -3, x.write(0, 59, 6), 6, x.tray(0, 0), 0, x.write(0, 0, 0), -1007);
        // In place of others: all 0.
        x.tray(0, 3);
        x.write(0, 1, 77);
        x.tray(0, 3);
        due(x.burst(0, 0, 0, 0), 0, x.soft(0, 5), 0);
        begin(51);
        due(x.write(4, 0, 0), -1002, x.write(-1, 0, 0), -1002, x.write(3, 0, 0), -1006);
        x.tray(3, 2);
        due(x.write(3, 2, 0), -1007, x.write(3, -1, 0), -1007, x.write(3, 1, 128), -128, x.write(3, 1, -129), 127, x.write(3, 0, 256), 0, x.write(3, 0, -3), -3);
    }

    private static void listings() {
        begin(52);
        x.tray(0, 60);
        x.tray(1, 4);
        due(x.lists(4, 0), -2, x.lists(-1, 0), -2, x.lists(0, 4), -2, x.lists(0, -1), -2, x.lists(0, 0), -6);
        x.fade(60);
        x.offer(9);
        x.send(0, 39, NONE);
        x.answer(0, 2);
        due(x.lists(2, 0), -6, x.lists(0, 0), 39, x.lists(1, 0), 4);
        // What came into the TRAYS, heard by another PROCESS: CODE BITS 0 to 3 on the first four of the row.
        due(x.burst(1, 0, 0, 1), 0, x.soft(1, 1), -60, x.soft(1, 5), -60, x.soft(1, 9), -60, x.soft(1, 3), -60);
        x.tray(2, 5);
        due(x.lists(2, 0), 5, x.burst(1, 0, 1, 2), 0, x.soft(1, 7), 60);
        layWord(3, 0, 0, 39, 100);
        x.burst(2, 0, 0, 3);
        x.burst(2, 0, 0, 3);
        due(x.soft(2, 1), -200, x.lists(1, 2), 4, x.burst(3, 0, 0, 1), 0, x.soft(3, 1), -127);
    }

    private static void images() {
        begin(53);
        due(x.image(2), -2, x.image(-1), -2, x.restore(2), -2, x.restore(-1), -2, x.restore(0), -5, x.image(0), 0, x.restore(1), -5);
        begin(54);
        offerAll(1, 2, 3);
        x.send(0, 39, NONE);
        x.send(1, 3, NONE);
        bring(2, 3, 30);
        x.limit(77);
        x.fade(33);
        due(x.image(1), 0);
        x.tray(0, 7);
        x.link(8, 2, 9, 2, 20);
        due(x.image(0), 0, x.offer(5), 1, x.restore(1), 0, x.count(0), 1, x.waiting(0), 3, x.count(18), 77, x.count(19), 33, x.count(15), 4);
        due(x.count(17), 48, x.given(0), 1, x.count(8), 1, x.stored(3), 30, x.count(6), 12, x.count(7), 4, x.process(1, 0), 1, x.process(1, 4), 1);
        due(x.soft(1, 1), -20, x.best(0), 14, x.kept(1, 0), 2, x.write(0, 6, 1), 1, x.answer(1, 0), 0);
        // The IMAGE stays as it was made.
        due(x.offer(9), 2, x.restore(1), 0, x.count(0), 1, x.answer(1, 0), 0, x.restore(0), 0, x.count(15), 8, x.count(0), 0, x.process(7, 2), 0);
    }

    private static void counts() {
        begin(55);
        due(x.count(-1), NONE, x.count(20), NONE, x.count(Integer.MIN_VALUE), NONE);
        offerAll(1, 2, 3, 4, 5, 6);
        x.fade(0);
        x.send(0, 39, NONE);
        x.answer(0, 1);
        x.fade(20);
        x.send(1, 39, NONE);
        x.report();
        due(x.count(0), 4, x.count(1), 2, x.count(2), 0, x.count(3), 1, x.count(4), 0, x.count(5), 1, x.count(6), 12, x.count(7), 2);
        x.tick(12);
        due(x.count(4), 2, x.count(5), 0, x.count(6), NONE, x.count(7), NONE, x.count(8), 1, x.count(9), 1);
        bring(2, 0, 0);
        bring(2, 3, 3);
        bring(2, 3, 3);
        x.burst(2, 0, x.heard(2, 0), 3);
        due(x.count(10), 1, x.count(11), 1, x.count(14), 1, x.count(12), 0, x.count(13), 0);
        x.limit(9);
        due(x.count(18), 9, x.count(19), 20, x.count(15), 4, x.count(16), 4, x.count(17), 48);
    }
}
