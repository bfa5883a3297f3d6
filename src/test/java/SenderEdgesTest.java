/** The sentences on what the sender tells that name an edge: promises 27 to 32. */
public final class SenderEdgesTest {
    private static final String GO = LinkEdgesTest.GO;

    private SenderEdgesTest() {
    }

    public static void main(String[] args) {
        processes();
        kept();
        rows();
        next();
        nextVersions();
        enoughRefused();
        enough();
        Script.finish();
    }

    private static void edge(String sentence, String rows) {
        Script.edge(sentence, rows);
    }

    private static void processes() {
        edge("27: (NONE: idle), TRIED (0, if idle)", """
            process(0, 0) = NONE; process(0, 1) = NONE; process(0, 2) = 0; process(0, 3) = 0; process(0, 4) = 0; process(0, 5) = NONE
            offer(31); send(0, 39, NONE); process(0, 0) = 0; process(0, 1) = 31; process(0, 2) = 1; process(0, 3) = 1; process(0, 4) = 1
            process(0, 5) = 2; answer(0, 0) = 1; process(0, 0) = NONE; process(0, 1) = NONE; process(0, 2) = 1; process(0, 3) = 0
            process(0, 4) = 0; process(0, 5) = NONE
            """);
        edge("27: its SN, its LOAD: the greatest", GO.repeat(7) + "offer(31); send(3, 1, NONE) = 0; process(3, 0) = 7; process(3, 1) = 31; count(1) = 0");
        edge("27: its SN, its LOAD: of one that went AGAIN", """
            fade(0); offer(17); send(0, 39, NONE); answer(0, 1); process(0, 1) = NONE; report() = 1; send(2, 39, NONE); process(2, 0) = 0
            process(2, 1) = 17; process(2, 2) = 1; process(2, 3) = 1
            """);
        edge("27: -2: the PROCESS", """
            process(0, 0) = NONE; process(3, 0) = NONE; process(-1, 0) ! -2; process(4, 0) ! -2; process(MIN, 0) ! -2; process(MAX, 0) ! -2
            """);
        edge("27: -2: what (0 to 5)", """
            process(0, 0) = NONE; process(0, 5) = NONE; process(0, -1) ! -2; process(0, 6) ! -2; process(0, MIN) ! -2; process(0, MAX) ! -2
            process(4, 6) ! -2
            """);
        edge("27: -2 is ahead of NONE: an idle one", "process(1, 6) ! -2; process(4, 0) ! -2");
    }

    private static void kept() {
        edge("28: NONE: it isn't KEPT: from BASE to NEXT", GO.repeat(2) + """
            fade(0); offer(12); offer(13); offer(14); send(0, 39, NONE); send(1, 39, NONE); send(2, 39, NONE); kept(1, 0) = NONE; kept(2, 0) = 12
            kept(3, 0) = 13; kept(4, 0) = 14; kept(5, 0) = NONE; kept(1, 1) = NONE; kept(2, 1) = 0; kept(5, 1) = NONE
            """);
        edge("28: NONE: it isn't KEPT: none is", Script.each("kept(%d, 0) = NONE; kept(%d, 1) = NONE", 8));
        edge("From BASE to NEXT BLOCKS are KEPT: around the end of the SNs, by 1 if CONFIRMED", GO.repeat(7) + """
            fade(0); offer(0); offer(31); send(0, 39, NONE); fade(20); send(1, 39, NONE) = 1; kept(7, 0) = 0; kept(0, 0) = 31; kept(1, 0) = NONE
            kept(6, 0) = NONE; report() = 0; kept(7, 1) = 0; kept(0, 1) = 1; count(2) = 7; count(1) = 1
            """);
        edge("each CONFIRMED or not: a new BLOCK isn't, though one of its SN was", """
            fade(0); offer(1); offer(2); send(0, 39, NONE); fade(20); send(1, 39, NONE) = 1; report() = 0; kept(1, 1) = 1; answer(0, 0); send(0, 39, NONE) = 1
            report() = 0; count(2) = 2
            """ + GO.repeat(7) + "count(1) = 1; fade(0); offer(9); send(2, 39, NONE); process(2, 0) = 1; kept(1, 0) = 9; kept(1, 1) = 0");
        edge("28: -2: the SN, what", """
            kept(0, 0) = NONE; kept(7, 1) = NONE; kept(-1, 0) ! -2; kept(8, 0) ! -2; kept(MIN, 0) ! -2; kept(MAX, 0) ! -2; kept(0, -1) ! -2
            kept(0, 2) ! -2; kept(0, MIN) ! -2; kept(0, MAX) ! -2; kept(8, 2) ! -2; offer(1); send(0, 1, NONE); kept(0, 2) ! -2; kept(8, 0) ! -2
            """);
    }

    private static void rows() {
        edge("29: NONE: not so many; -3: i is below 0", """
            again(0) = NONE; again(-1) ! -3; again(MIN) ! -3; again(MAX) = NONE; fade(0); offer(1); offer(2); send(0, 39, NONE); send(1, 39, NONE)
            answer(0, 1); answer(1, 1); report() = 2; again(0) = 0; again(1) = 1; again(2) = NONE; again(MAX) = NONE; again(-1) ! -3; again(MIN) ! -3
            """);
        edge("29: the i-th SN of AGAIN: as many as can be", """
            fade(0); offer(1); offer(2); offer(3); offer(4); send(0, 39, NONE); send(1, 39, NONE); send(2, 39, NONE); send(3, 39, NONE)
            answer(3, 1); answer(2, 1); answer(1, 1); answer(0, 1); report() = 4; again(0) = 0; again(1) = 1; again(2) = 2; again(3) = 3; again(4) = NONE
            """);
        edge("30: NONE: not so many; -3: i is below 0", """
            waiting(0) = NONE; waiting(-1) ! -3; waiting(MIN) ! -3; waiting(MAX) = NONE; offer(0); offer(31); waiting(0) = 0; waiting(1) = 31
            waiting(2) = NONE; waiting(MAX) = NONE; waiting(-1) ! -3; waiting(MIN) ! -3
            """);
        edge("30: The i-th LOAD that WAITS: 20 of them, then 19", Script.each("offer(%d)", 20) + Script.each("waiting(%d) = %d", 20)
            + "waiting(20) = NONE; send(0, 39, NONE); waiting(0) = 1; waiting(18) = 19; waiting(19) = NONE; offer(30) = 20; waiting(19) = 30");
    }

    private static void next() {
        edge("31: -2; -3: LENGTH; -5: it is idle", """
            next(-1, 13) ! -2; next(4, 13) ! -2; next(MIN, 13) ! -2; next(MAX, 13) ! -2; next(0, 0) ! -3; next(0, 61) ! -3; next(0, MIN) ! -3
            next(0, MAX) ! -3; next(0, 1) ! -5; next(3, 60) ! -5; offer(1); send(0, 39, NONE); next(0, 1) = 0; next(0, 0) ! -3; next(0, 61) ! -3
            next(1, 1) ! -5; answer(0, 0); next(0, 1) ! -5
            """);
        edge("31: the code that the call tells first", "next(4, 0) ! -2; next(-1, 61) ! -2; next(0, 0) ! -3; next(0, 61) ! -3; next(0, 39) ! -5");
        edge("31: The first VERSION: all are alike", """
            offer(1); send(0, 1, NONE); next(0, 1) = 0; distance(1, 2, 1) = 0; next(0, 39) = 0; next(0, 2) = 0
            """);
        edge("31: (each as it was sent, HEARD or not)", """
            offer(1); offer(2); send(0, 20, NONE); fade(0); send(1, 20, NONE) = NONE; next(0, 20) = 2; next(1, 20) = 2; distance(5, 20, 1) = 10
            distance(1, 20, 1) = 3; distance(3, 20, 1) = 6; distance(9, 20, 1) = 8
            """);
        edge("31: all SENDINGS of its BLOCK so far: those of an earlier BLOCK don't count", """
            link(1, 4, 12, 8, 48); offer(1); offer(2); fade(0); send(0, 20, NONE); answer(0, 1) = 1; send(0, 26, NONE); process(0, 0) = 1
            next(0, 5) = 3; next(0, 13) = 0; next(0, 20) = 3; link(1, 4, 12, 8, 48); fade(0); offer(1); send(0, 26, NONE); next(0, 5) = 3
            next(0, 13) = 0; next(0, 20) = 3
            """);
    }

    /** By a table of its own: the least DISTANCE of WHOLE WORDS by each VERSION behind all that was sent. */
    private static void nextVersions() {
        for (int room : new int[] {16, 17, 19, 33, 47, 48}) {
            nextVersions(room, 1, 13, 20, 39, 60, 7, 33, 60);
            // The most that can be sent of a BLOCK: 8 times 60, up to 40 of one CODE BIT.
            nextVersions(room, 60, 60, 60, 60, 60, 60, 60, 60);
            nextVersions(room, 60, 60, 60, 60, 60, 60, 60, 49);
        }
    }

    private static void nextVersions(int room, int... lengths) {
        int[] order = {0, 2, 3, 1};
        for (int first = 1; first <= 60; first += 30) {
            StringBuilder rows = new StringBuilder("link(1, 1, 12, 8, " + room + "); fade(0); offer(9)\n");
            int[] times = new int[39];
            for (int n = 0; n < 8; n++) {
                for (int c : PlainJoiner.row(room, order[n % 4], lengths[n])) {
                    times[c]++;
                }
                rows.append("send(0, " + lengths[n] + ", NONE) = NONE\n");
                for (int length : new int[] {first, first + 1, first + 6, first + 12, first + 19, first + 25, first + 29}) {
                    rows.append("next(0, " + length + ") = " + farthest(room, length, times) + "\n");
                }
                rows.append("answer(0, 0) = NONE\n");
            }
            edge("31: the least DISTANCE of unlike WHOLE WORDS by all SENDINGS, LENGTHS 1 to 60, by ROOM " + room, rows + "next(0, 1) ! -5");
        }
    }

    private static int farthest(int room, int length, int[] times) {
        int found = -1;
        int most = -1;
        for (int version = 0; version < 4; version++) {
            int[] all = times.clone();
            for (int c : PlainJoiner.row(room, version, length)) {
                all[c]++;
            }
            int least = Integer.MAX_VALUE;
            for (int n = 1; n < 256; n++) {
                boolean[] word = PlainJoiner.CODE[PlainJoiner.wordOf(n >> 5, n & 31)];
                int apart = 0;
                for (int c = 0; c < 39; c++) {
                    apart += word[c] != PlainJoiner.CODE[5][c] ? all[c] : 0;
                }
                least = Math.min(least, apart);
            }
            if (least > most) {
                most = least;
                found = version;
            }
        }
        return found;
    }

    private static void enoughRefused() {
        edge("32: -2", "enough(-1, 1, 1) ! -2; enough(4, 1, 1) ! -2; enough(MIN, 1, 1) ! -2; enough(MAX, 1, 1) ! -2; enough(3, 1, 1) ! -5");
        edge("32: -3: LENGTH", """
            offer(31); send(0, 39, NONE); enough(0, 1, 20) = 1; enough(0, 60, 20) = 1; enough(0, 0, 20) ! -3; enough(0, 61, 20) ! -3
            enough(0, MIN, 20) ! -3; enough(0, MAX, 20) ! -3
            """);
        edge("32: -3: strength (1 to 60)", """
            offer(31); send(0, 39, NONE); enough(0, 39, 1) = 1; enough(0, 39, 60) = 1; enough(0, 39, 0) ! -3; enough(0, 39, 61) ! -3
            enough(0, 39, MIN) ! -3; enough(0, 39, MAX) ! -3
            """);
        edge("32: -5: it is idle", "enough(0, 39, 1) ! -5; offer(1); send(0, 39, NONE); enough(0, 39, 1) = 1; enough(1, 39, 1) ! -5; answer(0, 0); enough(0, 39, 1) ! -5");
        edge("32: the code that the call tells first", "enough(4, 0, 0) ! -2; enough(0, 0, 0) ! -3; enough(0, 0, 1) ! -3; enough(0, 1, 0) ! -3; enough(0, 1, 1) ! -5");
    }

    private static void enough() {
        // PROCESS 0 has LOAD 31 by the TOGGLE 1; all SOFT are as far below 0 as LIMIT lets them.
        String off = "limit(BY); offer(31); fade(0); send(0, 39, NONE) = NONE; lay(0, 0, 0, 39, 100); burst(0, 0, 1, 0) = 0; soft(0, 0) = -BY\n";
        edge("32: (1 to 8, the fewest): by the 8th", off.replace("BY", "7")
            + "enough(0, 39, 1) = 8; enough(0, 39, 2) = 4; enough(0, 39, 7) = 2; enough(0, 39, 8) = 1; enough(0, 39, 60) = 1; soft(0, 0) = -7");
        edge("32: NONE: not by the 8th", off.replace("BY", "8")
            + "enough(0, 39, 1) = NONE; enough(0, 39, 2) = 5; enough(0, 39, 8) = 2; enough(0, 39, 9) = 1; soft(0, 0) = -8");
        edge("32: to SOFT that THE RECEIVER has: (to 0, if it saw none)", "offer(31); fade(0); send(0, 39, NONE) = NONE; heard(0, 0) = NONE; enough(0, 39, 1) = 1; enough(0, 1, 60) = NONE");
        edge("32: (to 0, if it saw another TOGGLE)", """
            offer(31); fade(0); send(0, 39, NONE) = NONE; lay(0, 0, 0, 39, 127); burst(0, 0, 0, 0) = 0; heard(0, 0) = 0; enough(0, 39, 1) = 1
            burst(0, 0, 1, 0) = 0; enough(0, 39, 1) = NONE; enough(0, 39, 60) = 3
            """);
        edge("32: (also if it HAS one)", """
            limit(7); offer(31); fade(0); send(0, 39, NONE) = NONE; lay(0, 5, 0, 39, 100); burst(0, 0, 1, 0) = 1; heard(0, 2) = 1; best(0) = 5
            enough(0, 39, 1) = 8; enough(0, 39, 60) = 1; count(14) = 0
            """);
        // LOAD 8 of SN 0 is the WORD 64, its only 1 in STEP 4; VERSION 2 of 26 PLACES begins with that.
        edge("32: by VERSIONS from TRIED on", """
            link(1, 1, 1, 8, 26); word(0, 8) = 64; sent(2, 1, 0) = 4; offer(8); fade(0); send(0, 1, NONE) = NONE; enough(0, 1, 1) = 1; answer(0, 0)
            send(0, 1, NONE) = NONE; enough(0, 1, 1) = 4
            """);
        edge("32: each value added as if HEARD: kept to LIMIT", "limit(1); offer(31); send(0, 39, NONE) = 1; enough(0, 39, 60) = 1; limit(500); enough(0, 60, 60) = 1; soft(0, 0) = -1");
    }
}
