/** The sentences on words, the ring and sendings that name an edge: promises 1 to 13. */
public final class CodeEdgesTest {
    private CodeEdgesTest() {
    }

    public static void main(String[] args) {
        newObject();
        words();
        rests();
        codeBits();
        places();
        starts();
        rounds();
        covers();
        between();
        distances();
        shortest();
        versions();
        weak();
        Script.finish();
    }

    private static void edge(String sentence, String rows) {
        Script.edge(sentence, rows);
    }

    private static void newObject() {
        edge("1: All as at first: the counts", """
            count(0) = 0; count(1) = 0; count(2) = 0; count(3) = 0; count(4) = 0; count(5) = 0; count(6) = NONE; count(7) = NONE
            count(8) = 0; count(9) = 0; count(10) = 0; count(11) = 0; count(12) = 0; count(13) = 0; count(14) = 0
            count(15) = 4; count(16) = 4; count(17) = 48; count(18) = 500; count(19) = 20
            """);
        StringBuilder rows = new StringBuilder();
        for (int p = 0; p < 4; p++) {
            rows.append(("process(P, 0) = NONE; process(P, 1) = NONE; process(P, 2) = 0; process(P, 3) = 0; process(P, 4) = 0\n"
                + "process(P, 5) = NONE; heard(P, 0) = NONE; heard(P, 1) = 0; heard(P, 2) = 0; soft(P, 0) = -99000006\n"
                + "soft(P, 38) = -99000006; best(P) = -6; answer(P, 0) = -5; send(P, 39, NONE) = -5\n").replace("P", "" + p));
        }
        edge("1: All as at first: the PROCESSES", rows + "process(4, 0) = -2; heard(4, 0) = -2");
        edge("1: All as at first: the rows, TRAYS and IMAGES", """
            waiting(0) = NONE; again(0) = NONE; given(0) = NONE; drained(0) = NONE; drain() = 0; gaps(0) = 0; gaps(1) = NONE
            write(0, 0, 0) = -1006; write(1, 0, 0) = -1006; write(2, 0, 0) = -1006; write(3, 0, 0) = -1006
            restore(0) = -5; restore(1) = -5; kept(0, 0) = NONE; kept(7, 1) = NONE; stored(0) = -6; stored(7) = -6
            """);
        edge("1: WAIT is 12 at first", "come(0, 0, 1, 1); count(6) = 12; count(7) = 2; tick(11) = 0; tick(1) = 1");
        edge("1: TRIES are 4 at first", "fade(0); offer(1)\n" + "send(0, 39, NONE) = NONE; answer(0, 0) = NONE; count(12) = 0\n".repeat(3)
            + "process(0, 0) = 0; send(0, 39, NONE) = NONE; answer(0, 0) = NONE; count(12) = 1; process(0, 0) = NONE");
        edge("An object is used for at most 512 calls", Script.each("offer(%d)", 20) + "run(5, 60, 39, 0)\n"
            + "tick(1)\n".repeat(489) + "given(19) = 0; given(0) = 19");
    }

    private static void words() {
        edge("A BLOCK: its SN (0 to 7)", """
            word(0, 0) = 5; word(7, 0) = 1792; word(0, 31) = 251; word(7, 31) = 2046
            word(-1, 0) ! -3; word(8, 0) ! -3; word(-1, 31) ! -3; word(8, 31) ! -3; word(MIN, 0) ! -3; word(MAX, 0) ! -3
            """);
        edge("A BLOCK: its LOAD (0 to 31)", """
            word(1, 0) = 263; word(1, 31) = 505
            word(0, -1) ! -3; word(0, 32) ! -3; word(7, -1) ! -3; word(7, 32) ! -3; word(0, MIN) ! -3; word(0, MAX) ! -3
            """);
        edge("WORDS: 0 to 2047", """
            whole(0) = 0; whole(2047) = 0; whole(2046) = 1; bits(0) = 0
            whole(-1) ! -3; whole(2048) ! -3; whole(MIN) ! -3; whole(MAX) ! -3
            bits(-1) ! -3; bits(2048) ! -3; bits(MIN) ! -3; bits(MAX) ! -3
            """);
        // By the powers of 2 alone: what 1011 leaves of 8, 16, .. 1024 is 3, 6, 7, 5, 1, 2, 4, 3.
        int[] left = {3, 6, 7, 5, 1, 2, 4, 3};
        StringBuilder rows = new StringBuilder();
        for (int n = 0; n < 256; n++) {
            int low = 5;
            for (int bit = 0; bit < 8; bit++) {
                low ^= (n >> bit & 1) == 1 ? left[bit] : 0;
            }
            rows.append("word(" + (n >> 5) + ", " + (n & 31) + ") = " + (8 * n + low) + "; whole(" + (8 * n + low) + ") = 1\n");
        }
        edge("11 bits: the highest 3 the SN, the next 5 the LOAD, the lowest 3 such that the REST is 5", rows.toString());
    }

    private static void rests() {
        edge("as long as a bit above its lowest 3 is 1: WORDS below 8 are their own REST",
            "whole(0) = 0; whole(1) = 0; whole(2) = 0; whole(3) = 0; whole(4) = 0; whole(5) = 1; whole(6) = 0; whole(7) = 0");
        edge("1011 with its highest 1 at the highest such bit: the lowest place, at bit 3",
            "whole(8) = 0; whole(9) = 0; whole(10) = 0; whole(11) = 0; whole(12) = 0; whole(13) = 0; whole(14) = 1; whole(15) = 0");
        edge("1011 with its highest 1 at the highest such bit: the highest place, at bit 10", """
            whole(1024) = 0; whole(1025) = 0; whole(1026) = 0; whole(1027) = 0; whole(1028) = 0; whole(1029) = 0; whole(1030) = 1
            whole(1031) = 0; whole(2040) = 0; whole(2045) = 0; whole(2046) = 1; whole(2047) = 0
            """);
    }

    private static void codeBits() {
        edge("0 ahead of STEP 0: a WORD whose only 1 is in STEP 0", "bits(1024) = " + (1L | 7L << 13 | 5L << 26));
        edge("b is 0 in STEPS 11, 12: a WORD whose only 1 is in STEP 10", "bits(1) = " + (1L << 10 | 7L << 23 | 5L << 36)
            + "; bits(2) = " + (1L << 9 | 7L << 22 | 5L << 35) + "; bits(3) = " + (3L << 9 | 9L << 22 | 15L << 35));
        // All 1: STREAM 1 has three 1s but in STEPS 1 and 11 (two), 0 and 12 (one); STREAM 2 two but in 0, 1, 11, 12.
        edge("whether b, p, q are odd in number, whether b, q are: all bits 1",
            "bits(2047) = " + (2047L | (8191L & ~(1L << 1) & ~(1L << 11)) << 13 | (3L | 3L << 11) << 26));
        edge("CODE BIT 13 s + t (0 to 38): the least and the greatest", """
            offer(0); send(0, 39, NONE) = 1; soft(0, 0) = -20; soft(0, 38) = 20; soft(0, 12) = -20; soft(0, 13) = -20
            soft(0, 25) = 20; soft(0, 26) = -20; soft(0, -1) ! -99000007; soft(0, 39) ! -99000007
            """);
    }

    private static void places() {
        StringBuilder rows = new StringBuilder();
        int[] stream = {-1, 1, 5, 9, -1, 3, 7, 11, -1, 2, 6, 10, 0, 4, 8, 12};
        for (int n = 0; n < 16; n++) {
            int bit = stream[n];
            rows.append("place(" + n + ") = " + bit + "; place(" + (16 + 2 * n) + ") = " + (bit < 0 ? -1 : bit + 13)
                + "; place(" + (17 + 2 * n) + ") = " + (bit < 0 ? -1 : bit + 26) + "\n");
        }
        edge("PLACES 0 to 15: those of STREAM 0; 16, 18, .. 46: of STREAM 1; 17, 19, .. 47: of STREAM 2", rows.toString());
        edge("5: NONE: it is EMPTY", """
            place(0) = NONE; place(4) = NONE; place(8) = NONE; place(16) = NONE; place(17) = NONE; place(24) = NONE
            place(25) = NONE; place(32) = NONE; place(33) = NONE; place(1) = 1; place(15) = 12; place(18) = 14; place(47) = 38
            """);
        edge("5: -2: beyond ROOM", "place(47) = 38; place(48) ! -2; place(MAX) ! -2; place(-1) ! -2; place(MIN) ! -2");
        edge("ROOM (16 to 48): just the first so many PLACES are there", """
            link(4, 4, 12, 4, 16) = 0; place(0) = NONE; place(15) = 12; place(16) ! -2; place(47) ! -2; place(-1) ! -2
            link(4, 4, 12, 4, 17) = 0; place(16) = NONE; place(17) ! -2
            link(4, 4, 12, 4, 19) = 0; place(18) = 14; place(19) ! -2
            link(4, 4, 12, 4, 47) = 0; place(46) = 25; place(47) ! -2
            link(4, 4, 12, 4, 48) = 0; place(47) = 38; place(48) ! -2
            """);
    }

    private static void starts() {
        edge("6: -2: VERSION (0 to 3)", """
            sent(0, 1, 0) = 1; sent(3, 1, 0) = 19; sent(-1, 1, 0) ! -2; sent(4, 1, 0) ! -2; sent(MIN, 1, 0) ! -2; sent(MAX, 1, 0) ! -2
            """);
        edge("6: -3: LENGTH (1 to 60)", """
            sent(0, 1, 0) = 1; sent(0, 60, 0) = 1; sent(0, 60, 59) = 29
            sent(0, 0, 0) ! -3; sent(0, 61, 0) ! -3; sent(0, -1, 0) ! -3; sent(0, MIN, 0) ! -3; sent(0, MAX, 0) ! -3
            """);
        edge("6: NONE: not so many; -3: i is below 0", """
            sent(0, 1, 0) = 1; sent(0, 1, 1) = NONE; sent(0, 60, 59) = 29; sent(0, 60, 60) = NONE; sent(0, 60, MAX) = NONE
            sent(0, 60, -1) ! -3; sent(0, 60, MIN) ! -3
            """);
        edge("6: the code that the call tells first, and all ahead of NONE", """
            sent(4, 0, -1) ! -2; sent(4, 0, 99) ! -2; sent(-1, 5, 5) ! -2; sent(0, 0, 0) ! -3; sent(0, 0, 99) ! -3; sent(0, 61, 99) ! -3
            """);
        edge("from PLACE v times ROOM by 4 (cut): no rest, ROOM 48 and 16; an EMPTY one there is left out", """
            sent(0, 60, 0) = 1; sent(1, 60, 0) = 0; sent(2, 60, 0) = 16; sent(3, 60, 0) = 19
            link(1, 1, 1, 1, 16) = 0; sent(0, 60, 0) = 1; sent(1, 60, 0) = 3; sent(2, 60, 0) = 2; sent(3, 60, 0) = 0
            """);
        edge("from PLACE v times ROOM by 4 (cut): a quarter, a half, three quarters cut off", """
            link(1, 1, 1, 1, 17) = 0; sent(1, 9, 0) = 3; sent(2, 9, 0) = 2; sent(3, 9, 0) = 0    # 4.25, 8.5, 12.75
            link(1, 1, 1, 1, 18) = 0; sent(1, 9, 0) = 3; sent(2, 9, 0) = 2; sent(3, 9, 0) = 4    # 4.5, 9, 13.5
            link(1, 1, 1, 1, 19) = 0; sent(1, 9, 0) = 3; sent(2, 9, 0) = 2; sent(3, 9, 0) = 8    # 4.75, 9.5, 14.25
            link(1, 1, 1, 1, 46) = 0; sent(1, 9, 0) = 10; sent(2, 9, 0) = 35; sent(3, 9, 0) = 15 # 11.5, 23, 34.5
            link(1, 1, 1, 1, 47) = 0; sent(1, 9, 0) = 10; sent(2, 9, 0) = 35; sent(3, 9, 0) = 28 # 11.75, 23.5, 35.25
            """);
    }

    private static void rounds() {
        edge("round and round, EMPTY ones left out: ROOM 48, its last CODE BIT, then its first", """
            sent(0, 60, 37) = 25; sent(0, 60, 38) = 38; sent(0, 60, 39) = 1; sent(3, 60, 11) = 38; sent(3, 60, 12) = 1
            sent(3, 60, 38) = 28; sent(3, 60, 39) = 19; sent(1, 60, 29) = 38; sent(1, 60, 30) = 1; sent(2, 60, 19) = 38; sent(2, 60, 20) = 1
            """);
        StringBuilder rows = new StringBuilder("link(1, 1, 1, 1, 16) = 0\n");
        int[] ring = {1, 5, 9, 3, 7, 11, 2, 6, 10, 0, 4, 8, 12};
        for (int i = 0; i < 60; i++) {
            rows.append("sent(0, 60, " + i + ") = " + ring[i % 13] + "; sent(3, 60, " + i + ") = " + ring[(i + 9) % 13] + "\n");
        }
        edge("round and round: ROOM 16, more than four times", rows.toString());
        edge("round and round: ROOM 17 and 18 end with EMPTY ones, 19 and 47 with a CODE BIT", """
            link(1, 1, 1, 1, 17) = 0; sent(0, 60, 12) = 12; sent(0, 60, 13) = 1
            link(1, 1, 1, 1, 18) = 0; sent(0, 60, 12) = 12; sent(0, 60, 13) = 1
            link(1, 1, 1, 1, 19) = 0; sent(0, 60, 12) = 12; sent(0, 60, 13) = 14; sent(0, 60, 14) = 1
            link(1, 1, 1, 1, 47) = 0; sent(0, 60, 37) = 25; sent(0, 60, 38) = 1
            """);
    }

    private static void covers() {
        edge("7: some VERSIONS (bits, 0 to 15)", """
            covers(0, 60) = 0; covers(15, 60) = 39; covers(15, 1) = 4; covers(1, 1) = 1; covers(8, 1) = 1
            covers(-1, 1) ! -3; covers(16, 1) ! -3; covers(MIN, 1) ! -3; covers(MAX, 1) ! -3
            """);
        edge("7: each of a LENGTH (1 to 60)", """
            covers(1, 1) = 1; covers(1, 38) = 38; covers(1, 39) = 39; covers(1, 40) = 39; covers(1, 60) = 39; covers(0, 1) = 0
            covers(1, 0) ! -3; covers(1, 61) ! -3; covers(1, MIN) ! -3; covers(1, MAX) ! -3; covers(0, 0) ! -3; covers(16, 61) ! -3
            """);
        edge("7: How many of the 39 CODE BITS: no more than ROOM has", """
            link(1, 1, 1, 1, 16) = 0; covers(15, 60) = 13; link(1, 1, 1, 1, 18) = 0; covers(15, 60) = 13
            link(1, 1, 1, 1, 19) = 0; covers(15, 60) = 14; link(1, 1, 1, 1, 47) = 0; covers(15, 60) = 38
            """);
        long all = (1L << 39) - 1;
        edge("8: CODE BITS that are not sent: all, one, none", "lacks(0, 1) = " + all + "; lacks(0, 60) = " + all
            + "; lacks(1, 38) = " + (1L << 38) + "; lacks(1, 39) = 0; lacks(15, 60) = 0; lacks(1, 1) = " + (all ^ 2)
            + "; lacks(8, 1) = " + (all ^ 1L << 19) + "; link(1, 1, 1, 1, 16); lacks(15, 60) = " + (all ^ 8191));
        edge("8: -3", """
            lacks(-1, 1) ! -3; lacks(16, 1) ! -3; lacks(MIN, 1) ! -3; lacks(MAX, 1) ! -3
            lacks(1, 0) ! -3; lacks(1, 61) ! -3; lacks(0, MIN) ! -3; lacks(0, MAX) ! -3
            """);
    }

    private static void between() {
        edge("9: -3: a WORD", """
            between(0, 0, 15, 60) = 0; between(2047, 2047, 15, 60) = 0; between(0, 2047, 1, 39) = 26; between(2047, 0, 1, 39) = 26
            between(-1, 0, 1, 1) ! -3; between(2048, 0, 1, 1) ! -3; between(0, -1, 1, 1) ! -3; between(0, 2048, 1, 1) ! -3
            between(MIN, 0, 1, 1) ! -3; between(MAX, 0, 1, 1) ! -3; between(0, MIN, 1, 1) ! -3; between(0, MAX, 1, 1) ! -3
            """);
        edge("9: -3: VERSIONS, LENGTH", """
            between(0, 2047, 0, 60) = 0; between(0, 2047, 15, 1) = 4; between(0, 512, 1, 1) = 1
            between(0, 0, -1, 1) ! -3; between(0, 0, 16, 1) ! -3; between(0, 0, MAX, 1) ! -3
            between(0, 0, 1, 0) ! -3; between(0, 0, 1, 61) ! -3; between(0, 0, 0, MIN) ! -3
            """);
        edge("a CODE BIT counts as often as it is sent", """
            between(0, 1024, 1, 39) = 6; between(0, 1024, 15, 39) = 24; between(0, 512, 1, 39) = 6; between(0, 512, 1, 40) = 7
            link(1, 1, 1, 1, 16) = 0; between(0, 1024, 1, 9) = 0; between(0, 1024, 1, 10) = 1; between(0, 1024, 1, 22) = 1
            between(0, 1024, 1, 23) = 2; between(0, 1024, 1, 60) = 4; between(0, 512, 1, 52) = 4; between(0, 512, 1, 53) = 5
            between(0, 512, 15, 60) = 19
            """);
    }

    private static void distances() {
        edge("10: -2: what (0 to 3)", """
            distance(1, 13, 0) = 1; distance(1, 13, 1) = 2; distance(1, 13, 2) = 11; distance(1, 13, 3) = 4
            distance(1, 13, -1) ! -2; distance(1, 13, 4) ! -2; distance(1, 13, MIN) ! -2; distance(1, 13, MAX) ! -2
            """);
        edge("10: -3: VERSIONS, LENGTH", """
            distance(0, 60, 0) = 0; distance(15, 60, 1) = 60; distance(15, 1, 0) = 0
            distance(-1, 1, 0) ! -3; distance(16, 1, 1) ! -3; distance(1, 0, 2) ! -3; distance(1, 61, 3) ! -3
            """);
        edge("10: the code that the call tells first", "distance(16, 0, 4) ! -2; distance(-1, 61, -1) ! -2; distance(16, 0, 0) ! -3");
        edge("10: how many WORDS other than one are at that: all, if nothing is sent", """
            distance(0, 1, 2) = 2047; distance(0, 1, 3) = 255; distance(0, 1, 1) = 0
            distance(1, 1, 2) = 1023; distance(1, 1, 3) = 127; distance(1, 8, 3) = 1; distance(1, 9, 1) = 1; distance(1, 9, 3) = 8
            """);
        edge("10: STREAM 0 alone: WORDS are one apart, WHOLE ones two, in STEPS 7 from one another", """
            link(1, 1, 1, 1, 16) = 0; distance(1, 13, 0) = 1; distance(1, 13, 2) = 11; distance(1, 60, 0) = 4; distance(15, 60, 1) = 37; distance(1, 13, 3) = 4
            """);
    }

    private static void shortest() {
        edge("11: some VERSIONS; -3", """
            shortest(0, 1) = NONE; shortest(0, 60) = NONE; shortest(15, 1) = 3; shortest(-1, 1) ! -3; shortest(16, 1) ! -3
            shortest(MIN, 1) ! -3; shortest(MAX, 1) ! -3
            """);
        edge("11: d (1 to 60); -3", """
            shortest(1, 1) = 9; shortest(15, 60) = 60; shortest(1, 60) = NONE; shortest(1, 0) ! -3; shortest(1, 61) ! -3
            shortest(1, MIN) ! -3; shortest(1, MAX) ! -3; shortest(0, 0) ! -3; shortest(0, 61) ! -3; shortest(16, 0) ! -3
            """);
        edge("11: The least LENGTH at d or more", """
            shortest(1, 10) = 39; distance(1, 39, 1) = 10; distance(1, 38, 1) = 9; shortest(1, 9) = 38; distance(1, 37, 1) = 8
            distance(1, 8, 1) = 0; distance(1, 9, 1) = 1
            """);
        edge("11: NONE: none up to 60", """
            distance(1, 60, 1) = 13; shortest(1, 13) = 51; distance(1, 50, 1) = 12; shortest(1, 14) = NONE
            distance(15, 59, 1) = 59; shortest(15, 59) = 59; link(1, 1, 1, 1, 16) = 0; distance(1, 60, 1) = 9; shortest(1, 9) = 57; shortest(1, 10) = NONE
            """);
    }

    private static void versions() {
        edge("12: -3: LENGTH (1 to 60)", """
            versions(1, 1) = NONE; versions(60, 1) = 1; versions(0, 1) ! -3; versions(61, 1) ! -3; versions(MIN, 1) ! -3; versions(MAX, 1) ! -3
            """);
        edge("12: -3: d (1 to 60)", """
            versions(60, 60) = 15; versions(59, 60) = NONE; versions(13, 0) ! -3; versions(13, 61) ! -3; versions(13, MIN) ! -3
            versions(13, MAX) ! -3; versions(0, 0) ! -3; versions(61, 61) ! -3
            """);
        edge("12: The fewest VERSIONS (of as few the least)", """
            versions(9, 1) = 1; distance(1, 9, 1) = 1; versions(13, 5) = 6; distance(3, 13, 1) = 4; distance(5, 13, 1) = 4; distance(6, 13, 1) = 5
            versions(20, 12) = 7; versions(39, 10) = 1; versions(39, 11) = 3; versions(39, 20) = 3; versions(39, 21) = 7
            versions(39, 31) = 15; versions(39, 40) = 15; versions(39, 41) = NONE
            """);
        edge("12: NONE: not by all", "versions(1, 60) = NONE; versions(2, 1) = NONE; versions(3, 1) = 7; distance(7, 3, 1) = 1; distance(3, 3, 1) = 0; distance(15, 2, 1) = 0");
    }

    private static void weak() {
        edge("13: -2: VERSION (0 to 3)", """
            weak(0, 0, 1) = 1; weak(0, 3, 1) = 1; weak(0, -1, 1) ! -2; weak(0, 4, 1) ! -2; weak(0, MIN, 1) ! -2; weak(0, MAX, 1) ! -2
            """);
        edge("13: -3: WORD (0 to 2047), LENGTH (1 to 60)", """
            weak(0, 0, 60) = 0; weak(2047, 0, 1) = 1; weak(2047, 0, 60) = 0
            weak(-1, 0, 1) ! -3; weak(2048, 0, 1) ! -3; weak(MIN, 0, 1) ! -3; weak(MAX, 0, 1) ! -3
            weak(0, 0, 0) ! -3; weak(0, 0, 61) ! -3; weak(0, 0, MIN) ! -3; weak(0, 0, MAX) ! -3
            """);
        edge("13: the code that the call tells first", "weak(2048, 4, 0) ! -2; weak(-1, -1, 61) ! -2; weak(2048, 0, 0) ! -3");
        edge("13: all of the values, or none", "weak(0, 0, 1) = 1; weak(1024, 0, 1) = 1; weak(512, 0, 1) = 1; weak(5, 0, 2) = 2; weak(5, 0, 39) = 0");
        // STREAM 0 alone, each CODE BIT twice: one turned makes both ways alike, and the least WORD is THE BEST.
        edge("13: of like ones the least: a tie spoils a WORD that isn't the least", """
            link(1, 1, 1, 1, 16) = 0; weak(0, 0, 13) = 11; weak(2047, 0, 13) = 11; weak(0, 0, 26) = 0; weak(2047, 0, 26) = 22
            weak(2047, 0, 39) = 0; weak(2047, 0, 27) = 20
            """);
        edge("13: (SOFT from 0, without a LIMIT)", """
            weak(2046, 3, 30) = 0; limit(1) = 500; weak(5, 0, 39) = 0; weak(2046, 3, 30) = 0; weak(75, 2, 20) = 0; fade(0) = 20; weak(5, 0, 13) = 11
            link(1, 1, 1, 1, 16) = 0; limit(1) = 500; weak(2047, 0, 39) = 0
            """);
    }
}
