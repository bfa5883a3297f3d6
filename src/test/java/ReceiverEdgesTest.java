/** The sentences on what the receiver tells that name an edge: promises 33 to 49. */
public final class ReceiverEdgesTest {
    private static final String GO = LinkEdgesTest.GO;
    // A SOFT of 0 for all CODE BITS, on PROCESS 0 by the TOGGLE 0.
    private static final String ZERO = "tray(0, 1); burst(0, 0, 0, 0) = 0\n";

    private ReceiverEdgesTest() {
    }

    public static void main(String[] args) {
        soft();
        heard();
        best();
        sum();
        marginAndSecond();
        lean();
        ties();
        rank();
        listed();
        farthestSums();
        eachForItself();
        signs();
        stored();
        gaps();
        given();
        would();
        Script.finish();
    }

    private static void edge(String sentence, String rows) {
        Script.edge(sentence, rows);
    }

    private static void soft() {
        edge("33: -99000002: the PROCESS", """
            offer(1); send(3, 39, NONE); soft(3, 0) = -20; soft(-1, 0) ! -99000002; soft(4, 0) ! -99000002; soft(MIN, 0) ! -99000002
            soft(MAX, 0) ! -99000002
            """);
        edge("33: -99000006 (MISSING at first)", """
            soft(0, 0) ! -99000006; soft(0, 38) ! -99000006; fade(0); offer(1); send(0, 39, NONE); soft(0, 0) ! -99000006; fade(20); answer(0, 0)
            send(0, 1, NONE); soft(0, 0) = 0; soft(1, 0) ! -99000006; link(4, 4, 12, 4, 48); soft(0, 0) ! -99000006
            """);
        edge("33: -99000007: no such CODE BIT", ZERO + "soft(0, 0) = 0; soft(0, 38) = 0; soft(0, -1) ! -99000007; soft(0, 39) ! -99000007; soft(0, MIN) ! -99000007; soft(0, MAX) ! -99000007");
        edge("33: the code that the call tells first", "soft(4, 39) ! -99000002; soft(-1, -1) ! -99000002; soft(0, 39) ! -99000006; soft(0, -1) ! -99000006\n" + ZERO + "soft(4, 39) ! -99000002; soft(0, 39) ! -99000007");
    }

    private static void heard() {
        edge("34: the TOGGLE it saw (NONE), BURSTS, 1 if it HAS one", """
            heard(0, 0) = NONE; heard(0, 1) = 0; heard(0, 2) = 0; offer(1); send(0, 39, NONE); heard(0, 0) = 1; heard(0, 1) = 1; heard(0, 2) = 1
            tray(0, 1); burst(0, 0, 0, 0); heard(0, 0) = 0; heard(0, 1) = 1; heard(0, 2) = 0
            """);
        edge("34: -2: the PROCESS, what (0 to 2)", """
            heard(3, 2) = 0; heard(-1, 0) ! -2; heard(4, 0) ! -2; heard(MIN, 0) ! -2; heard(MAX, 0) ! -2; heard(0, -1) ! -2; heard(0, 3) ! -2
            heard(0, MIN) ! -2; heard(0, MAX) ! -2; heard(4, 3) ! -2
            """);
    }

    private static void best() {
        edge("35: -2; -6", """
            best(-1) ! -2; best(4) ! -2; best(MIN) ! -2; best(MAX) ! -2; best(0) ! -6; best(3) ! -6; tray(0, 1); burst(3, 0, 0, 0); best(3) = 0; best(0) ! -6
            """);
        edge("THE BEST: of like ones the least: all are alike", ZERO + "best(0) = 0; ties(0, 0) = 2048");
        edge("THE BEST: of like ones the least: half are alike", """
            fill(0, 1, 1); burst(0, 0, 0, 0) = 0; best(0) = 512; burst(0, 1, 1, 0) = 0; best(0) = 1024; fill(0, 1, -1); burst(0, 0, 0, 0) = 0; best(0) = 0
            """);
        edge("THE BEST: the greatest WORD", "lay(0, 2047, 0, 13, 9); burst(0, 0, 0, 0) = 0; best(0) = 2047; rank(0, 2047) = 0");
        edge("THE BEST: of like ones the least: two are alike, whichever way", """
            lay(0, 2047, 0, 13, 9); write(0, 8, 0); burst(0, 0, 0, 0) = 1; best(0) = 2046; ties(0, 0) = 2; second(0) = 2047; margin(0) = 0
            lay(0, 2047, 0, 13, 9); write(0, 9, 0); burst(1, 0, 0, 0) = 0; best(1) = 1023; ties(1, 0) = 2; second(1) = 2047; margin(1) = 0
            """);
    }

    private static void sum() {
        edge("36: -99000002: the PROCESS; -99000003: the WORD; -99000006", """
            sum(-1, 0) ! -99000002; sum(4, 0) ! -99000002; sum(MIN, 0) ! -99000002; sum(MAX, 0) ! -99000002; sum(0, -1) ! -99000003
            sum(0, 2048) ! -99000003; sum(0, MIN) ! -99000003; sum(0, MAX) ! -99000003; sum(0, 0) ! -99000006; sum(3, 2047) ! -99000006
            """);
        edge("36: the code that the call tells first", "sum(4, 2048) ! -99000002; sum(0, 2048) ! -99000003; sum(0, 2047) ! -99000006\n" + ZERO + "sum(4, 2048) ! -99000002; sum(0, 2048) ! -99000003; sum(0, 2047) = 0");
        edge("SUM: SOFT added where it is 1, taken away where it is 0", """
            fill(0, 1, 7); burst(0, 0, 0, 0) = 0; sum(0, 0) = -7; sum(0, 512) = 7; sum(0, 2047) = 7; sum(0, 511) = -7; fill(0, 1, -3)
            burst(1, 0, 0, 0) = 0; sum(1, 0) = 3; sum(1, 2047) = -3
            """);
    }

    private static void marginAndSecond() {
        edge("37: -2; -6", "margin(-1) ! -2; margin(4) ! -2; margin(MIN) ! -2; margin(MAX) ! -2; margin(0) ! -6; margin(3) ! -6");
        edge("37: above the greatest of all other WORDS: 0, if another is as good", ZERO + "margin(0) = 0; fill(0, 1, 5); burst(0, 0, 0, 0) = 0; margin(0) = 0");
        edge("37: By how much the greatest SUM is above: the least there is", """
            lay(0, 0, 0, 13, 5); write(0, 8, -1); burst(0, 0, 0, 0) = 0; best(0) = 0; margin(0) = 2; second(0) = 1
            """);
        edge("38: -2; -6", "second(-1) ! -2; second(4) ! -2; second(MIN) ! -2; second(MAX) ! -2; second(0) ! -6; second(3) ! -6");
        edge("38: of all but THE BEST, of like ones the least", ZERO + """
            second(0) = 1; fill(0, 1, 5); burst(0, 0, 0, 0) = 0; best(0) = 512; second(0) = 513; fill(0, 1, 5); burst(1, 1, 0, 0) = 0; best(1) = 1024
            second(1) = 1025
            """);
        edge("38: of all but THE BEST: it is less than THE BEST", "lay(0, 2047, 0, 13, 9); burst(0, 0, 0, 0) = 0; second(0) = 1023; margin(0) = 18");
        edge("37, 38: of all but THE BEST: THE BEST is 1, just behind the least", "lay(0, 1, 0, 13, 9); burst(0, 0, 0, 0) = 0; margin(0) = 18; second(0) = 0; ties(0, 0) = 1; best(0) = 1");
        edge("38: of all but THE BEST: it is 2, not just behind THE BEST", "lay(0, 0, 0, 13, 9); write(0, 2, -1); burst(0, 0, 0, 0) = 0; best(0) = 0; second(0) = 2; margin(0) = 2");
        edge("38: of all but THE BEST: THE BEST is 0", "lay(0, 0, 0, 13, 9); burst(0, 0, 0, 0) = 0; best(0) = 0; second(0) = 1; margin(0) = 18");
    }

    private static void lean() {
        edge("39: -99000002: the PROCESS; -99000003: the STEP (0 to 10); -99000006", """
            lean(-1, 0) ! -99000002; lean(4, 0) ! -99000002; lean(MIN, 0) ! -99000002; lean(MAX, 0) ! -99000002; lean(0, -1) ! -99000003
            lean(0, 11) ! -99000003; lean(0, MIN) ! -99000003; lean(0, MAX) ! -99000003; lean(0, 0) ! -99000006; lean(3, 10) ! -99000006
            """);
        edge("39: the code that the call tells first", "lean(4, 11) ! -99000002; lean(0, 11) ! -99000003; lean(0, 10) ! -99000006\n" + ZERO + "lean(4, 11) ! -99000002; lean(0, 11) ! -99000003; lean(0, 10) = 0");
        edge("39: a STEP (0 to 10): the first, the last", """
            tray(0, 13); write(0, 9, 4); write(0, 8, -3); burst(0, 0, 0, 0); lean(0, 0) = 8; lean(0, 10) = -6; lean(0, 1) = 0; lean(0, 9) = 0
            """);
    }

    private static void ties() {
        edge("40: -2: the PROCESS, what (0, 1); -6", """
            ties(-1, 0) ! -2; ties(4, 0) ! -2; ties(MIN, 0) ! -2; ties(MAX, 0) ! -2; ties(0, -1) ! -2; ties(0, 2) ! -2; ties(0, MIN) ! -2; ties(0, MAX) ! -2
            ties(0, 0) ! -6; ties(3, 1) ! -6; ties(4, 2) ! -2
            """);
        edge("40: How many WORDS have the greatest SUM: all, half, one", ZERO + """
            ties(0, 0) = 2048; ties(0, 1) = 256; fill(0, 1, 1); burst(0, 0, 0, 0) = 0; ties(0, 0) = 1024; ties(0, 1) = 128; lay(0, 5, 0, 13, 9)
            burst(1, 0, 0, 0) = 1; ties(1, 0) = 1; ties(1, 1) = 1
            """);
        edge("40: of WHOLE ones (0, too)", "lay(0, 0, 0, 13, 9); burst(0, 0, 0, 0) = 0; ties(0, 0) = 1; ties(0, 1) = 0");
    }

    private static void rank() {
        edge("41: -2; -3: the WORD; -6", """
            rank(-1, 0) ! -2; rank(4, 0) ! -2; rank(MIN, 0) ! -2; rank(MAX, 0) ! -2; rank(0, -1) ! -3; rank(0, 2048) ! -3; rank(0, MIN) ! -3
            rank(0, MAX) ! -3; rank(0, 0) ! -6; rank(3, 2047) ! -6; rank(4, 2048) ! -2
            """);
        edge("41: How many WORDS have a greater SUM: none, those as good don't count, all others", ZERO + """
            rank(0, 0) = 0; rank(0, 2047) = 0; fill(0, 1, 1); burst(0, 0, 0, 0) = 0; rank(0, 512) = 0; rank(0, 2047) = 0; rank(0, 0) = 1024
            lay(0, 0, 0, 13, 9); burst(1, 0, 0, 0) = 0; rank(1, 0) = 0; rank(1, 1) = 1; rank(1, 1024) = 1; rank(1, 3) = 12; rank(1, 2047) = 2047
            """);
    }

    private static void listed() {
        edge("42: -2; -3: i (0 to 255); -6", """
            listed(-1, 0) ! -2; listed(4, 0) ! -2; listed(MIN, 0) ! -2; listed(MAX, 0) ! -2; listed(0, -1) ! -3; listed(0, 256) ! -3; listed(0, MIN) ! -3
            listed(0, MAX) ! -3; listed(0, 0) ! -6; listed(3, 255) ! -6; listed(4, 256) ! -2
            """);
        edge("42: of like ones the least: all are alike", ZERO + "listed(0, 0) = 5; listed(0, 1) = 14; listed(0, 128) = 1030; listed(0, 254) = 2037; listed(0, 255) = 2046");
        StringBuilder rows = new StringBuilder("lay(0, 2047, 0, 13, 9); burst(0, 0, 0, 0) = 0\n");
        int i = 0;
        for (int ones = 11; ones >= 0; ones--) {
            for (int n = 0; n < 256; n++) {
                int word = PlainJoiner.wordOf(n >> 5, n & 31);
                if (Integer.bitCount(word) == ones) {
                    rows.append("listed(0, " + i + ") = " + word + "\n");
                    i++;
                }
            }
        }
        edge("42: by their SUMS, the greatest first, of like ones the least: by STREAM 0 alone the most 1s", rows.toString());
    }

    private static void farthestSums() {
        int lightest = -1;
        int heaviest = -1;
        for (int n = 0; n < 256; n++) {
            int word = PlainJoiner.wordOf(n >> 5, n & 31);
            lightest = lightest < 0 || ones(word) < ones(lightest) ? word : lightest;
            heaviest = heaviest < 0 || ones(word) >= ones(heaviest) ? word : heaviest;
        }
        edge("kept from -LIMIT to LIMIT: all 39 CODE BITS at -9999", "limit(9999); fill(0, 60, -128)\n" + "burst(0, 0, 0, 0) = 0\n".repeat(79)
            + "soft(0, 0) = -9999; soft(0, 38) = -9999; sum(0, 0) = 389961; best(0) = 0; margin(0) = 119988; second(0) = 1; lean(0, 0) = -119988\n"
            + "sum(0, 2047) = " + (389961 - 2 * 9999 * ones(2047)) + "; listed(0, 0) = " + lightest + "; listed(0, 255) = " + heaviest
            + "; sum(0, " + heaviest + ") = " + (389961 - 2 * 9999 * ones(heaviest)) + "; known(0, 0) = 39; known(0, 1) = 10; wrong(0) = 0; against(0, 2047) = 26\n"
            + "margin(0) = 119988\n".repeat(40) + "listed(0, 0) = " + lightest + "; listed(0, 255) = " + heaviest);
    }

    private static int ones(int word) {
        int ones = 0;
        for (boolean one : PlainJoiner.CODE[word]) {
            ones += one ? 1 : 0;
        }
        return ones;
    }

    /** What one PROCESS has been told is not taken for another's. */
    private static void eachForItself() {
        String two = "lay(0, 0, 0, 13, 9); lay(1, 2047, 0, 13, 5); burst(0, 0, 0, 0) = 0; burst(1, 0, 0, 1) = 0\n";
        edge("37: THE RECEIVER: of each PROCESS: margin", two + "margin(0) = 18; margin(1) = 10; margin(0) = 18");
        edge("38: THE RECEIVER: of each PROCESS: second", two + "second(0) = 1; second(1) = 1023; second(0) = 1");
        edge("39: THE RECEIVER: of each PROCESS: lean", two + "lean(0, 3) = -18; lean(1, 3) = 10; lean(0, 3) = -18");
        edge("40: THE RECEIVER: of each PROCESS: ties", two + "tray(2, 1); burst(2, 0, 0, 2) = 0; ties(0, 0) = 1; ties(2, 0) = 2048; ties(1, 0) = 1");
        edge("41: THE RECEIVER: of each PROCESS: rank", two + "rank(0, 2047) = 2047; rank(1, 2047) = 0; rank(0, 2047) = 2047");
        edge("42: THE RECEIVER: of each PROCESS: listed", two + "listed(0, 0) = 64; listed(1, 0) = 1919; listed(0, 0) = 64");
        edge("35: THE RECEIVER: of each PROCESS: best, sum", two + "best(0) = 0; best(1) = 2047; sum(0, 0) = 117; sum(1, 0) = -45; best(0) = 0");
        edge("43, 45: THE RECEIVER: of each PROCESS: against, wrong, known", two
            + "against(0, 0) = 0; against(1, 0) = 11; wrong(0) = 0; wrong(1) = 0; known(0, 0) = 13; write(1, 12, 1); burst(1, 0, 1, 1) = 0; wrong(1) = 1; wrong(0) = 0");
    }

    private static void signs() {
        edge("43: -2; -3: the WORD; -6", """
            against(-1, 0) ! -2; against(4, 0) ! -2; against(MIN, 0) ! -2; against(MAX, 0) ! -2; against(0, -1) ! -3; against(0, 2048) ! -3
            against(0, MIN) ! -3; against(0, MAX) ! -3; against(0, 0) ! -6; against(3, 2047) ! -6; against(4, 2048) ! -2
            """);
        edge("43: a SOFT that is above 0 where a WORD has 0, or below 0 where it has 1: 0 is neither", ZERO + """
            against(0, 0) = 0; against(0, 2047) = 0; fill(0, 1, 1); burst(0, 0, 0, 0) = 0; against(0, 0) = 1; against(0, 512) = 0; fill(0, 1, -1)
            burst(1, 0, 0, 0) = 0; against(1, 0) = 0; against(1, 512) = 1; against(1, 2047) = 1
            """);
        edge("44: -2: the PROCESS, what (0, 1); -6", """
            known(-1, 0) ! -2; known(4, 0) ! -2; known(MIN, 0) ! -2; known(MAX, 0) ! -2; known(0, -1) ! -2; known(0, 2) ! -2; known(0, MIN) ! -2
            known(0, MAX) ! -2; known(0, 0) ! -6; known(3, 1) ! -6; known(4, 2) ! -2
            """);
        edge("44: how many CODE BITS have a SOFT that isn't 0: none, one, all", ZERO + """
            known(0, 0) = 0; known(0, 1) = 0; fill(0, 1, 1); burst(0, 0, 0, 0) = 0; known(0, 0) = 1; known(0, 1) = 0; fill(0, 1, -1); burst(0, 0, 0, 0) = 0
            known(0, 0) = 0; burst(0, 0, 0, 0) = 0; known(0, 0) = 1; fill(0, 39, -1); burst(1, 0, 0, 0) = 0; known(1, 0) = 39; known(1, 1) = 10
            burst(1, 0, 0, 0) = 0; known(1, 0) = 39; known(1, 1) = 10
            """);
        edge("44: in how many of these at least two unlike WHOLE WORDS are unlike: STREAM 0, one short of it", """
            fill(0, 9, -1); burst(0, 0, 0, 0) = 0; known(0, 0) = 9; known(0, 1) = 1; fill(0, 8, -1); burst(1, 0, 0, 0) = 0; known(1, 1) = 0; fill(0, 13, -1)
            burst(2, 0, 0, 0) = 0; known(2, 1) = 2
            """);
        edge("45: -2; -6", "wrong(-1) ! -2; wrong(4) ! -2; wrong(MIN) ! -2; wrong(MAX) ! -2; wrong(0) ! -6; wrong(3) ! -6");
        // A WORD that isn't sent in STEPS 11, 12: values above 0 there are wrong whatever THE BEST is.
        edge("45: a SOFT above 0 where THE BEST has 0, or below 0 where it has 1: none, two", ZERO + """
            wrong(0) = 0; lay(0, 5, 0, 13, 9); write(0, 5, 3); write(0, 12, 1); burst(1, 0, 0, 0) = 1; best(1) = 5; wrong(1) = 2; against(1, 5) = 2
            """);
    }

    private static void stored() {
        edge("46: -6: none; -7: no such SN", """
            stored(0) ! -6; stored(7) ! -6; stored(-1) ! -7; stored(8) ! -7; stored(MIN) ! -7; stored(MAX) ! -7; come(0, 0, 3, 0); stored(3) = 0
            stored(2) ! -6; stored(4) ! -6; come(1, 0, 1, 31); stored(1) = 31
            """);
        edge("46: -6: what was GIVEN isn't STORED any more", "come(0, 0, 1, 9); come(1, 0, 0, 8); stored(0) ! -6; stored(1) ! -6");
    }

    private static void gaps() {
        edge("47: -2", "gaps(-1) ! -2; gaps(3) ! -2; gaps(MIN) ! -2; gaps(MAX) ! -2; gaps(0) = 0; gaps(2) = 0");
        edge("47: (0: none is), (NONE)", "gaps(0) = 0; gaps(1) = NONE; gaps(2) = 0; come(0, 0, 0, 1); gaps(0) = 0; gaps(1) = NONE; gaps(2) = 0");
        edge("47: ahead of the farthest STORED one: the nearest, the farthest, all but EXPECTED", """
            come(0, 0, 1, 1); gaps(0) = 1; gaps(1) = 1; gaps(2) = 2; come(1, 0, 3, 3); gaps(0) = 2; gaps(1) = 1; gaps(2) = 4; come(2, 0, 2, 2)
            gaps(0) = 1; gaps(1) = 1; gaps(2) = 4
            """);
        edge("47: ahead of the farthest STORED one: just the farthest", "come(0, 0, 3, 3); gaps(0) = 3; gaps(1) = 3; gaps(2) = 4");
        edge("47: from EXPECTED on: around the end of the SNs", GO.repeat(6) + "come(1, 0, 0, 1); gaps(0) = 2; gaps(1) = 0; gaps(2) = 3; come(2, 0, 1, 1); gaps(0) = 2; gaps(1) = 0; gaps(2) = 4");
    }

    private static void given() {
        edge("48: NONE: not so many; -3: i is below 0", """
            given(0) = NONE; given(-1) ! -3; given(MIN) ! -3; given(MAX) = NONE; come(0, 0, 0, 31); come(1, 0, 1, 0); given(0) = 0; given(1) = 31
            given(2) = NONE; given(255) = NONE; given(MAX) = NONE; given(-1) ! -3
            """);
        for (int many : new int[] {255, 256, 257, 260}) {
            StringBuilder rows = new StringBuilder("link(8, 4, 60, 8, 48)\n");
            for (int n = 0; n < many; n++) {
                rows.append("offer(" + load(n) + ")\n");
                if (n % 20 == 19 || n == many - 1) {
                    rows.append("run(6, 60, 39, 0); run(7, 60, 39, 0)\n");
                }
            }
            rows.append("count(0) = 0; count(8) = " + many + "; count(9) = 0\n");
            int kept = Math.min(256, many);
            for (int i = 0; i < 256; i += i < 8 || i > 240 ? 1 : 8) {
                rows.append("given(" + i + ") = " + (i < kept ? load(many - 1 - i) : -1) + "\n");
            }
            rows.append("given(256) = NONE; given(257) = NONE; given(259) = NONE; given(MAX) = NONE\n");
            edge("48: the i-th latest (0 the latest; 256 are kept): " + many + " GIVEN", rows.toString());
            edge("25: LOADS that are GIVEN in CLEAN ROUNDS, behind " + many, rows.substring(0, rows.indexOf("given"))
                + "offer(31); offer(30); drained(0) = 31; drained(1) = 30; drained(2) = NONE; count(8) = " + many);
        }
    }

    private static int load(int n) {
        return (n * 7 + n / 9) % 32;
    }

    private static void would() {
        edge("49: -2: the SN, what", """
            would(0, 0) = 0; would(7, 0) = 3; would(0, 1) = 1; would(7, 1) = 0; would(-1, 0) ! -2; would(8, 0) ! -2; would(MIN, 0) ! -2; would(MAX, 0) ! -2
            would(0, -1) ! -2; would(0, 2) ! -2; would(0, MIN) ! -2; would(0, MAX) ! -2; would(8, 2) ! -2
            """);
        for (int window = 1; window <= 4; window++) {
            StringBuilder rows = new StringBuilder("link(4, " + window + ", 12, 4, 48)\n");
            for (int sn = 0; sn < 8; sn++) {
                rows.append("would(" + sn + ", 0) = " + (sn == 0 ? 0 : sn < window ? 1 : 3) + "; would(" + sn + ", 1) = " + (sn == 0 ? 1 : 0) + "\n");
            }
            edge("49: 0: it would be GIVEN, 1: STORED, 2: TWICE, 3: LATE: WINDOW " + window, rows.toString());
        }
        edge("49: how many would be GIVEN: with all that is STORED, as far as there is no gap", """
            come(0, 0, 1, 1); would(0, 1) = 2; would(1, 0) = 2; would(1, 1) = 0; come(1, 0, 3, 3); would(0, 1) = 2; would(2, 0) = 1; would(2, 1) = 0
            come(2, 0, 2, 2); would(0, 0) = 0; would(0, 1) = 4; would(3, 0) = 2; would(4, 0) = 3; count(8) = 0; count(11) = 0; count(10) = 0
            """);
        edge("49: d from EXPECTED (modulo 8): around the end of the SNs", GO.repeat(6) + """
            would(6, 0) = 0; would(7, 0) = 1; would(0, 0) = 1; would(1, 0) = 1; would(2, 0) = 3; would(5, 0) = 3; come(1, 0, 7, 1); come(2, 0, 0, 1)
            would(6, 1) = 3; would(7, 0) = 2; would(0, 0) = 2; would(1, 0) = 1; come(3, 0, 1, 1); would(6, 1) = 4
            """);
    }
}
