/** The sentences on blocks that come, the timer, reports and rounds that name an edge: promises 21 to 26. */
public final class RoundsEdgesTest {
    private static final String GO = LinkEdgesTest.GO;

    private RoundsEdgesTest() {
    }

    public static void main(String[] args) {
        windows();
        givenInOrder();
        timers();
        ticks();
        reports();
        resets();
        runsRefused();
        runDraws();
        runAnswers();
        runReports();
        drains();
        drained();
        worst();
        Script.finish();
    }

    private static void edge(String sentence, String rows) {
        Script.edge(sentence, rows);
    }

    private static void windows() {
        for (int window = 1; window <= 4; window++) {
            edge("if d is WINDOW or more, one more is LATE: WINDOW " + window, "link(8, " + window + ", 12, 4, 48)\n"
                + "come(0, 0, " + window + ", 1); count(10) = 1; come(1, 0, 7, 1); count(10) = 2; count(5) = 0; count(8) = 0; count(6) = NONE\n"
                + "come(2, 0, " + (window - 1) + ", 1); count(10) = 2; count(5) = " + (window > 1 ? 1 : 0) + "; count(8) = " + (window > 1 ? 0 : 1));
        }
        edge("its SN d from EXPECTED (modulo 8): around the end of the SNs", GO.repeat(6) + """
            count(4) = 6; come(1, 0, 2, 1); count(10) = 1; come(1, 1, 5, 1); count(10) = 2; come(1, 0, 1, 9); count(10) = 2; stored(1) = 9
            count(7) = 2; come(2, 0, 7, 8); stored(7) = 8; count(5) = 2; come(3, 0, 6, 7); count(8) = 8; count(4) = 0; given(0) = 8; count(5) = 1
            """);
        edge("if d is WINDOW or more: what was just GIVEN is LATE", "come(0, 0, 0, 4); count(4) = 1; come(1, 0, 0, 5); count(10) = 1; count(8) = 1; given(0) = 4");
        edge("if one of this SN is STORED, one more is TWICE", """
            come(0, 0, 1, 4); stored(1) = 4; come(1, 0, 1, 5); count(11) = 1; stored(1) = 4; count(5) = 1; come(2, 0, 3, 6); come(3, 0, 3, 7)
            count(11) = 2; stored(3) = 6; count(10) = 0; heard(3, 2) = 1
            """);
    }

    private static void givenInOrder() {
        edge("as long as one of EXPECTED is STORED: none behind it, one, three", """
            come(0, 0, 0, 10); count(8) = 1; count(4) = 1; come(1, 0, 2, 12); come(2, 0, 1, 11); count(8) = 3; count(4) = 3; come(0, 1, 4, 14)
            come(1, 1, 5, 15); come(2, 1, 6, 16); count(5) = 3; come(3, 0, 3, 13); count(8) = 7; count(4) = 7; count(5) = 0
            given(0) = 16; given(1) = 15; given(2) = 14; given(3) = 13; given(4) = 12; given(5) = 11; given(6) = 10; given(7) = NONE
            """);
        edge("EXPECTED is one more: 0 behind 7", GO.repeat(7) + """
            count(4) = 7; come(1, 0, 0, 20); come(2, 0, 1, 21); stored(0) = 20; come(3, 0, 7, 27); count(4) = 2; given(0) = 21; given(2) = 27
            count(5) = 0
            """);
        edge("as long as one of EXPECTED is STORED: a gap ends it", """
            come(0, 0, 1, 1); come(1, 0, 3, 3); come(2, 0, 0, 0); count(4) = 2; count(8) = 2; stored(3) = 3; stored(1) = -6
            """);
    }

    private static void timers() {
        edge("if one is STORED and the TIMER doesn't run, it runs, WAIT long", """
            count(6) = NONE; come(0, 0, 0, 0); count(6) = NONE; come(1, 0, 2, 2); count(6) = 12; tick(5) = 0; count(6) = 7; come(2, 0, 3, 3)
            count(6) = 7; count(7) = 3
            """);
        edge("MARK one behind the STORED one farthest from EXPECTED", """
            come(0, 0, 3, 3); count(7) = 4; come(1, 0, 1, 1); count(7) = 4; come(2, 0, 0, 0); count(4) = 2; count(7) = 4; count(6) = 12
            """);
        edge("MARK, an SN: 0 behind 7", GO.repeat(6) + "come(1, 0, 7, 7); count(7) = 0; come(2, 0, 1, 1); count(7) = 0; tick(12) = 1; count(4) = 0; count(9) = 1; count(7) = 2");
        edge("when EXPECTED is MARK, it stops", """
            come(0, 0, 1, 1); count(6) = 12; come(1, 0, 0, 0); count(4) = 2; count(6) = NONE; count(7) = NONE; tick(60) = 0; count(9) = 0
            """);
        edge("when EXPECTED is MARK: one short of it it runs on", """
            come(0, 0, 2, 2); tick(3) = 0; count(7) = 3; come(1, 0, 0, 0); count(4) = 1; count(6) = 9; count(7) = 3; come(2, 0, 1, 1); count(6) = NONE
            """);
        edge("Behind all that it may run anew, WAIT long: another is STORED behind MARK", """
            come(0, 0, 1, 1); tick(11) = 0; come(1, 0, 3, 3); count(6) = 1; count(7) = 2; come(2, 0, 0, 0); count(4) = 2; count(6) = 12; count(7) = 4
            """);
        edge("as long as one of EXPECTED is STORED: beyond MARK, too", """
            come(0, 0, 1, 1); come(1, 0, 2, 2); come(2, 0, 3, 3); count(7) = 2; come(3, 0, 0, 0); count(4) = 4; count(6) = NONE; count(8) = 4
            """);
        edge("a LATE one and one that comes TWICE leave the TIMER", """
            come(0, 0, 1, 1); tick(4); come(1, 0, 1, 2); count(6) = 8; come(2, 0, 4, 4); count(6) = 8; count(7) = 2; count(10) = 1; count(11) = 1
            """);
    }

    private static void ticks() {
        edge("21: n TICKS (1 to 60); -3", """
            tick(0) ! -3; tick(61) ! -3; tick(-1) ! -3; tick(MIN) ! -3; tick(MAX) ! -3; tick(1) = 0; tick(60) = 0; come(0, 0, 1, 1)
            tick(0) ! -3; tick(61) ! -3; count(6) = 12; tick(60) = 1; tick(1) = 0
            """);
        edge("when it is 0: one TICK ahead nothing is, then from EXPECTED to MARK each is GIVEN, or LOST", """
            come(0, 0, 1, 1); come(1, 0, 3, 3); tick(11) = 0; count(4) = 0; count(9) = 0; tick(1) = 1; count(4) = 2; count(9) = 1; given(0) = 1
            """);
        edge("when it is 0: the farthest gap, three are LOST", "come(0, 0, 3, 3); tick(12) = 1; count(9) = 3; count(4) = 4; count(6) = NONE; count(5) = 0");
        edge("then those of EXPECTED as above", """
            come(0, 0, 1, 1); come(1, 0, 2, 2); come(2, 0, 3, 3); count(7) = 2; tick(12) = 3; count(4) = 4; count(9) = 1; given(0) = 3; count(6) = NONE
            """);
        edge("and it may run anew", """
            link(4, 4, 1, 4, 48); come(0, 0, 1, 1); come(1, 0, 3, 3); tick(1) = 1; count(6) = 1; count(7) = 4; count(4) = 2; tick(1) = 1; count(4) = 4
            count(9) = 2; count(6) = NONE
            """);
        edge("21: how many were GIVEN in these: by several TIMERS in one call", """
            link(4, 4, 1, 4, 48); come(0, 0, 1, 1); come(1, 0, 3, 3); tick(2) = 2; count(4) = 4; count(9) = 2; count(8) = 2
            """);
        edge("each is GIVEN, or LOST: around the end of the SNs", GO.repeat(6) + """
            come(1, 0, 0, 20); come(2, 0, 1, 21); count(7) = 1; tick(12) = 2; count(4) = 2; count(9) = 2; given(0) = 21; given(1) = 20; stored(0) = -6
            """);
    }

    private static void reports() {
        edge("22: how many are AGAIN then: none, one, four", """
            report() = 0; fade(0); offer(1); offer(2); offer(3); offer(4); send(0, 39, NONE); report() = 0; answer(0, 1); report() = 1; send(0, 39, NONE)
            send(1, 39, NONE); send(2, 39, NONE); send(3, 39, NONE); report() = 0; answer(0, 1); answer(1, 1); answer(2, 1); answer(3, 1); report() = 4
            again(0) = 0; again(3) = 3; again(4) = NONE; report() = 4
            """);
        edge("AGAIN: from BASE on: around the end of the SNs", GO.repeat(6) + """
            fade(0); offer(6); offer(7); offer(8); offer(9); send(0, 39, NONE); send(1, 39, NONE); send(2, 39, NONE); send(3, 39, NONE)
            answer(2, 1); answer(3, 1); report() = 2; again(0) = 0; again(1) = 1; answer(0, 1); answer(1, 1); report() = 4
            again(0) = 6; again(1) = 7; again(2) = 0; again(3) = 1; again(4) = NONE
            kept(6, 0) = 6; kept(7, 0) = 7; kept(0, 0) = 8; kept(1, 0) = 9; kept(2, 0) = NONE; kept(5, 0) = NONE
            """);
        edge("all that are neither CONFIRMED nor on a PROCESS", """
            fade(0); offer(1); offer(2); offer(3); send(0, 39, NONE); send(1, 39, NONE); fade(20); send(2, 39, NONE) = 1; answer(0, 1); answer(2, 0) = 1
            report() = 1; again(0) = 0; kept(0, 1) = 0; kept(1, 1) = 0; kept(2, 1) = 1; process(1, 0) = 1
            """);
        edge("of those KEPT are CONFIRMED those that are STORED: not the one of PROCESS and ANSWER", """
            fade(0); offer(1); offer(2); send(0, 39, NONE); fade(20); send(1, 39, NONE) = 1; kept(1, 1) = 0; answer(1, 0) = 1; kept(1, 1) = 0
            report() = 0; kept(1, 1) = 1; kept(0, 1) = 0; count(5) = 1
            """);
        edge("BASE is EXPECTED; those ahead aren't KEPT; PROCESSES with one that isn't KEPT are idle and not ASKED", """
            offer(1); offer(2); send(0, 39, NONE) = 1; send(1, 1, NONE) = 0; report() = 0; count(2) = 1; kept(0, 0) = NONE; kept(1, 0) = 2
            process(0, 0) = NONE; process(0, 4) = 0; process(0, 2) = 1; process(1, 0) = 1; process(1, 4) = 1; count(12) = 0; answer(0, 0) ! -5
            """);
        edge("A REPORT: a new one makes AGAIN anew", """
            fade(0); offer(1); send(0, 39, NONE); answer(0, 1); report() = 1; come(1, 0, 0, 1); count(3) = 1; report() = 0; count(3) = 0; count(2) = 1
            """);
    }

    private static void resets() {
        edge("If EXPECTED is farther from BASE than NEXT: as far is no RESET", """
            fade(0); offer(1); send(0, 39, NONE); come(1, 0, 0, 9); report() = 0; count(13) = 0; count(2) = 1; count(1) = 1; process(0, 0) = NONE
            """);
        edge("If EXPECTED is farther from BASE than NEXT: one farther", """
            fade(0); offer(1); offer(2); offer(3); send(0, 39, NONE); send(2, 39, NONE); answer(2, 1); report() = 1; come(1, 0, 0, 9); come(1, 1, 1, 9)
            come(1, 0, 2, 9); count(4) = 3; count(1) = 2; report() = 0; count(13) = 1; count(1) = 3; count(2) = 3; count(3) = 0; process(0, 0) = NONE
            process(0, 4) = 0; kept(0, 0) = NONE; kept(1, 0) = NONE; kept(2, 0) = NONE; count(0) = 1; report() = 0; count(13) = 1
            fade(20); send(0, 39, NONE) = 1; process(0, 0) = 3; given(0) = 3
            """);
        edge("If EXPECTED is farther from BASE than NEXT: none are KEPT", "come(0, 0, 0, 9); report() = 0; count(13) = 1; count(1) = 1; count(2) = 1");
        edge("(each modulo 8): as far, around the end of the SNs", GO.repeat(6) + """
            fade(0); offer(1); offer(2); send(0, 39, NONE); send(1, 39, NONE); count(1) = 0; come(2, 0, 6, 9); come(2, 1, 7, 9); count(4) = 0; report() = 0
            count(13) = 0; count(2) = 0; process(1, 0) = NONE
            """);
        edge("(each modulo 8): one farther, around the end of the SNs", GO.repeat(6) + """
            fade(0); offer(1); offer(2); send(0, 39, NONE); send(1, 39, NONE); come(2, 0, 6, 9); come(2, 1, 7, 9); come(2, 0, 0, 9); count(4) = 1
            report() = 0; count(13) = 1; count(2) = 1; count(1) = 1
            """);
        StringBuilder seven = new StringBuilder();
        for (int sn = 0; sn < 7; sn++) {
            seven.append("come(0, " + (sn & 1) + ", " + sn + ", 5)\n");
        }
        edge("(each modulo 8): farthest, by 7", seven + "count(4) = 7; report() = 0; count(13) = 1; count(2) = 7; count(1) = 7");
        edge("(each modulo 8): once around, it is as far as 0", seven + "come(0, 1, 7, 5); count(4) = 0; report() = 0; count(13) = 0; count(2) = 0");
    }

    private static void runsRefused() {
        edge("23: -3: rounds (1 to 60)", """
            offer(1); offer(2); run(1, 0, 39, 0) ! -3; run(1, 61, 39, 0) ! -3; run(1, -1, 39, 0) ! -3; run(1, MIN, 39, 0) ! -3; run(1, MAX, 39, 0) ! -3
            run(1, 1, 39, 0) = 1; run(1, 60, 39, 0) = 1; process(1, 0) = NONE
            """);
        edge("23: -3: LENGTH", """
            offer(1); run(1, 1, 0, 0) ! -3; run(1, 1, 61, 0) ! -3; run(1, 1, -1, 0) ! -3; run(1, 1, MIN, 0) ! -3; run(1, 1, MAX, 0) ! -3
            run(1, 1, 1, 0) = 0; soft(0, 1) = -20; soft(0, 5) = 0; link(4, 4, 12, 4, 48); offer(1); run(1, 1, 60, 0) = 1; soft(0, 1) = -40; soft(0, 29) = -40; soft(0, 32) = -20
            """);
        edge("23: -3: noise (0 to 127)", """
            offer(1); run(1, 1, 39, -1) ! -3; run(1, 1, 39, 128) ! -3; run(1, 1, 39, MIN) ! -3; run(1, 1, 39, MAX) ! -3; run(1, 1, 39, 0) = 1
            link(4, 4, 12, 4, 48); offer(2); run(1, 1, 39, 127); process(0, 3) = 1; heard(0, 1) = 1
            """);
    }

    /** The first DRAWS of a SEED, by long arithmetic. */
    private static int[] draws(int seed, int many) {
        int[] draws = new int[many];
        long x = seed & 0xFFFFFFFFL;
        for (int n = 0; n < many; n++) {
            x = (1103515245L * x + 12345L) % 4294967296L;
            draws[n] = (int) (x / 65536);
        }
        return draws;
    }

    private static void runDraws() {
        for (int seed : new int[] {Integer.MIN_VALUE, Integer.MAX_VALUE, -1, 0, 1, 2, 3, 77, -1000000}) {
            int[] draws = draws(seed, 4);
            // LOAD 0: CODE BITS 1, 5, 9 are 0.
            StringBuilder rows = new StringBuilder("offer(0); run(" + seed + ", 1, 3, 127) = 0\n");
            StringBuilder quiet = new StringBuilder("offer(0); run(" + seed + ", 1, 3, 0) = 0\n");
            for (int i = 0; i < 3; i++) {
                int value = Math.max(-127, -20 + draws[1 + i] % 255 - 127);
                boolean heard = draws[0] % 16 != 0;
                rows.append("soft(0, " + (1 + 4 * i) + ") = " + (heard ? value : -99000006) + "\n");
                quiet.append("soft(0, " + (1 + 4 * i) + ") = " + (heard ? -20 : -99000006) + "\n");
            }
            edge("a DRAW modulo 16 is 0: it isn't HEARD, a DRAW modulo (2 n and 1) less n: noise 127", rows.toString());
            edge("a DRAW modulo 16 is 0: it isn't HEARD, a DRAW modulo (2 n and 1) less n: noise 0", quiet + "process(0, 4) = 1");
        }
        for (int seed : new int[] {0, 1, Integer.MIN_VALUE, 9}) {
            // Round 0 takes a DRAW and three for noise, so round 1 begins with the fifth; SN 1 has 0 in STEPS 1, 5, and 1 in 9.
            int[] draws = draws(seed, 8);
            boolean heard = draws[4] % 16 != 0;
            edge("(both kinds of DRAWS are made whether HEARD or not)", "offer(0); offer(0); run(" + seed + ", 2, 3, 10) = 0\n"
                + "soft(1, 1) = " + (heard ? -20 + draws[5] % 21 - 10 : -99000006) + "; soft(1, 5) = " + (heard ? -20 + draws[6] % 21 - 10 : -99000006)
                + "; soft(1, 9) = " + (heard ? 20 + draws[7] % 21 - 10 : -99000006));
        }
    }

    private static void runAnswers() {
        int[] seen = new int[8];
        for (int seed = 0; seed < 2000; seed++) {
            int[] draws = draws(seed, 41);
            // Each DRAW modulo 8 four times, half of these by what isn't HEARD.
            int kind = draws[40] % 8;
            if (seen[kind] >= 4 || seen[kind] >= 2 && draws[0] % 16 != 0) {
                continue;
            }
            seen[kind]++;
            // Not HEARD: a misread ANSWER is YES, all others leave it the BLOCK.
            edge("if ASKED, a DRAW modulo 8, by FADE 0 for PROCESS k modulo PROCESSES", "link(3, 4, 60, 8, 48); fade(0)\noffer(1); offer(2); offer(3)\n"
                + "run(" + seed + ", 4, 1, 5) = 0; process(0, 3) = " + (draws[6] % 8 == 0 ? 0 : 2) + "; process(1, 3) = 1; process(2, 3) = 1");
            edge("(both kinds of DRAWS are made whether HEARD or not): by FADE 0", "link(1, 4, 60, 8, 48); fade(0); offer(1)\n"
                + "run(" + seed + ", 2, 39, 5) = 0; process(0, 3) = " + (kind == 0 ? 0 : 2));
            boolean heard = draws[0] % 16 != 0;
            boolean keeps = heard ? kind < 2 : kind != 0;
            edge("0: the ANSWER is misread, 1: nothing is read, others: it is read", "link(1, 4, 60, 8, 48); offer(1)\n"
                + "run(" + seed + ", 2, 39, 0); process(0, 3) = " + (keeps ? 2 : 0) + "; process(0, 4) = " + (keeps ? 1 : 0));
        }
        edge("in round k (0 the first) for PROCESS k modulo PROCESSES: 8 of them", """
            link(8, 4, 60, 8, 48); fade(0); offer(1); offer(2); offer(3); offer(4); send(7, 39, NONE); run(2, 3, 1, 0); process(0, 0) = 1
            process(1, 0) = 2; process(2, 0) = 3; process(7, 3) = 1; process(7, 4) = 1
            """);
        edge("in round k (0 the first) for PROCESS k modulo PROCESSES: just one", "link(1, 4, 60, 8, 48); fade(0); offer(1); run(2, 1, 1, 0); process(0, 3) = 1; run(2, 1, 1, 0); process(0, 3) = 2");
    }

    private static void runReports() {
        edge("A TICK in each round: 1 and 60 of them", """
            link(4, 4, 60, 4, 48); come(0, 0, 1, 1); run(1, 1, 39, 0) = 0; count(6) = 59; run(1, 58, 39, 0) = 0; count(6) = 1; run(1, 1, 39, 0) = 1
            come(1, 0, 3, 3); count(6) = 60; run(1, 60, 39, 0) = 1; count(4) = 4
            """);
        edge("In rounds 7, 15, 23 .. a REPORT: not in the first seven", "come(0, 0, 0, 0); run(3, 7, 39, 0) = 0; count(13) = 0; count(2) = 0; run(3, 7, 39, 0); count(13) = 0");
        edge("In rounds 7, 15, 23 .. a REPORT: in the eighth", "come(0, 0, 0, 0); run(3, 8, 39, 0) = 0; count(13) = 1; count(2) = 1");
        edge("In rounds 7, 15, 23 .. a REPORT: not from round 8 to 14", "come(0, 0, 1, 1); run(3, 15, 39, 0) = 1; count(4) = 2; count(13) = 0");
        edge("In rounds 7, 15, 23 .. a REPORT: in round 15", "come(0, 0, 1, 1); run(3, 16, 39, 0) = 1; count(4) = 2; count(13) = 1");
        edge("a REPORT behind it: behind the TICK", "link(4, 4, 8, 4, 48); come(0, 0, 1, 1); run(3, 8, 39, 0) = 1; count(13) = 1; count(2) = 2");
        edge("In rounds 7, 15, 23 .. a REPORT: in round 55, the last of 60", "link(4, 4, 56, 4, 48); come(0, 0, 1, 1); run(3, 60, 39, 0) = 1; count(13) = 1");
        edge("In rounds 7, 15, 23 .. a REPORT: none behind round 55", "link(4, 4, 57, 4, 48); come(0, 0, 1, 1); run(3, 60, 39, 0) = 1; count(4) = 2; count(13) = 0");
    }

    /** A BLOCK that is KEPT but on no PROCESS, the next TOGGLE's SOFT far off for more than 8 SENDINGS, and 20 LOADS. */
    private static String spoilt() {
        return "link(1, 1, 60, 8, 48); offer(31); fade(0); send(0, 39, NONE) = NONE; answer(0, 1) = 1; lay(0, 0, 0, 39, 127)\n"
            + "burst(0, 0, 0, 0) = 0\n".repeat(4) + Script.each("offer(%d)", 20);
    }

    private static void drains() {
        edge("24: (0: it is so)", "drain() = 0; " + GO + "drain() = 0; drained(0) = NONE");
        edge("24: till no LOAD WAITS: one does, and BASE is NEXT", "offer(1); drain() = 1; count(0) = 1; count(8) = 0");
        edge("24: and BASE is NEXT: no LOAD WAITS, but one is KEPT", "offer(1); send(0, 39, NONE) = 1; drain() = 1; count(2) = 0; fade(0); drain() = 1; report(); drain() = 0");
        edge("24: one PROCESS, a WINDOW of 1: a round for each of 20 LOADS", "link(1, 1, 12, 4, 48)\n" + "offer(7)\n".repeat(20) + "drain() = 20; count(0) = 20");
        edge("(FADE 20 for these)", "fade(0); offer(1); drain() = 1; count(19) = 0; fade(60); drain() = 1; count(19) = 60; fade(1); drained(0) = 1; count(19) = 1");
        edge("24: NONE: not by the 30th", spoilt() + "drain() = NONE; drained(0) = 31; drained(19) = 18; drained(20) = NONE");
        edge("24: by the 30th", spoilt() + "report() = 1; drain() = 30; drained(20) = 19; drained(21) = NONE");
        // LOAD 31 is the WORD 251; SOFT of all CODE BITS is that of the WORD 0, so a 1 must be turned.
        String off = "offer(31); lay(0, 0, 0, 39, BY); burst(0, 0, 1, 0) = 0\n";
        edge("(FADE 20 for these): more than 19", off.replace("BY", "19") + "drain() = 1; drained(0) = 31; drained(1) = NONE");
        edge("(FADE 20 for these): not more than 20", off.replace("BY", "20") + "drain() = 2; drained(0) = 31; drained(1) = NONE");
        // The WORD 250 is unlike in CODE BITS 10, 23, 24, 25, 36, 38: by all six 120 are ahead of 110, by five 100 are not.
        edge("(LENGTH 39): the 39th value is sent", "offer(31); tray(0, 9); write(0, 8, -110); burst(0, 0, 1, 0) = 0; soft(0, 10) = -110; drain() = 1");
        // The WORD 763 is unlike in CODE BITS 1, 14, 15, 16, 27, 29: once each 120 are behind 130, with the first again 140 are not.
        edge("(LENGTH 39): no 40th value is sent", "offer(31); fill(0, 1, 65); burst(0, 0, 1, 0) = 0; burst(0, 0, 1, 0) = 0; soft(0, 1) = 130; drain() = 2");
        edge("(LENGTH 39): a ROOM of 16", "link(1, 1, 12, 4, 16); offer(9); drain() = 1; drained(0) = 9");
        Script.alike("24: judged as if they were: nothing changes", spoilt() + "drain(); drained(0); worst(3, 0); worst(3, 1)", spoilt());
    }

    private static void drained() {
        edge("25: NONE: not so many; -3: i is below 0", """
            drained(0) = NONE; drained(-1) ! -3; offer(9); offer(8); drained(0) = 9; drained(1) = 8; drained(2) = NONE; drained(MAX) = NONE
            drained(-1) ! -3; drained(MIN) ! -3; count(8) = 0
            """);
        edge("25: GIVEN in CLEAN ROUNDS: not those ahead of them", "offer(9); offer(8); send(0, 39, NONE) = 1; given(0) = 9; drained(0) = 8; drained(1) = NONE");
        edge("25: LOADS that are GIVEN: what is STORED from elsewhere, too, by the TIMER", """
            link(4, 4, 1, 4, 48); come(0, 0, 3, 30); offer(9); drain() = 1; drained(0) = 9; drained(1) = 30; drained(2) = NONE
            """);
        edge("25: as many LOADS as can WAIT", "offer(0)\n".repeat(19) + "offer(31) = 20; drain() = 5; drained(0) = 0; drained(19) = 31; drained(20) = NONE");
    }

    private static void worst() {
        edge("26: -2: what (0, 1)", "worst(0, 0) = 0; worst(0, 1) = 0; worst(0, -1) ! -2; worst(0, 2) ! -2; worst(0, MIN) ! -2; worst(0, MAX) ! -2");
        edge("26: -3: k (0 to 3)", "worst(0, 0) = 0; worst(3, 0) = 0; worst(3, 1) = 0; worst(-1, 0) ! -3; worst(4, 0) ! -3; worst(MIN, 1) ! -3; worst(MAX, 1) ! -3");
        edge("26: the code that the call tells first", "worst(4, 2) ! -2; worst(-1, -1) ! -2; worst(4, 0) ! -3");
        // 50 off on all CODE BITS: the third SENDING is good; if the ANSWER ahead of it is misread, it takes one round more.
        String third = "link(1, 1, 60, 8, 48); offer(31); lay(0, 0, 0, 39, 50); burst(0, 0, 1, 0) = 0; drain() = 3\n";
        edge("26: in each of the first k CLEAN ROUNDS: bit r for round r, the least number", third + """
            worst(0, 0) = 3; worst(0, 1) = 0; worst(1, 0) = 3; worst(1, 1) = 0; worst(2, 0) = 3; worst(2, 1) = 0; worst(3, 0) = 4; worst(3, 1) = 4
            """);
        String second = third.replace("39, 50", "39, 30").replace("drain() = 3", "drain() = 2");
        edge("26: bit r for round r: rounds that are not gone count, too", second + """
            worst(1, 0) = 2; worst(1, 1) = 0; worst(2, 0) = 3; worst(2, 1) = 2; worst(3, 0) = 3; worst(3, 1) = 2
            """);
        edge("26: bit 0: an ANSWER that waits now", "link(1, 1, 12, 4, 48); offer(1); fade(0); send(0, 39, NONE) = NONE\n"
            + "drain() = 1; worst(0, 0) = 1; worst(1, 0) = 2; worst(1, 1) = 1; worst(2, 0) = 2; worst(2, 1) = 1; worst(3, 0) = 2; worst(3, 1) = 1");
        // If the ANSWER to what wasn't HEARD is misread, it goes AGAIN by the TOGGLE that is far off till it is DROPPED.
        String bad = "link(1, 1, 60, TRIES, 48); offer(31); fade(0); send(0, 39, NONE) = NONE; lay(0, 0, 0, 39, 127)\n"
            + "burst(0, 0, 0, 0) = 0\n".repeat(4) + Script.each("offer(%d)", 20) + "drain() = 21; worst(0, 0) = 21; worst(0, 1) = 0\n";
        edge("26: by some choice just by the 30th", bad.replace("TRIES", "7") + "worst(1, 0) = 30; worst(1, 1) = 1; worst(3, 0) = 30; worst(3, 1) = 1");
        edge("26: NONE: by some choice not by the 30th; it counts as more than any", bad.replace("TRIES", "8")
            + "worst(1, 0) = NONE; worst(1, 1) = 1; worst(3, 0) = NONE; worst(3, 1) = 1");
        edge("25: GIVEN in CLEAN ROUNDS: none is misread", bad.replace("TRIES", "8") + "drained(0) = 31; drained(20) = 19; drained(21) = NONE");
        edge("26: NONE: by no choice by the 30th, the least number", spoilt() + "worst(0, 0) = NONE; worst(0, 1) = 0; worst(3, 0) = NONE; worst(3, 1) = 0");
    }
}
