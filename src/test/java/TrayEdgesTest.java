/** The sentences on trays, images and counts that name an edge: promises 50 to 55. */
public final class TrayEdgesTest {
    private static final String GO = LinkEdgesTest.GO;
    private static final String MESS = """
        limit(77); fade(33); offer(1); offer(2); offer(3); offer(4); offer(5); send(0, 39, NONE); send(1, 20, NONE); fade(0)
        send(2, 39, NONE); answer(2, 1); send(3, 39, NONE); answer(0, 0); burst(1, 0, 0, 3); burst(2, 0, 0, 3); report(); run(9, 30, 39, 90)
        """;

    private TrayEdgesTest() {
    }

    public static void main(String[] args) {
        trays();
        writes();
        lists();
        images();
        restores();
        counts();
        Script.finish();
    }

    private static void edge(String sentence, String rows) {
        Script.edge(sentence, rows);
    }

    private static void trays() {
        edge("50: -2 (TRAYS 0 to 3)", "tray(0, 1) = 0; tray(3, 1) = 0; tray(-1, 1) ! -2; tray(4, 1) ! -2; tray(MIN, 1) ! -2; tray(MAX, 1) ! -2");
        edge("50: -3: n is below 0 or above 60", """
            tray(0, 0) = 0; write(0, 0, 1) ! -1007; tray(0, 60) = 0; write(0, 59, 1) = 1; write(0, 60, 1) ! -1007; tray(1, -1) ! -3; tray(1, 61) ! -3
            tray(1, MIN) ! -3; tray(1, MAX) ! -3; write(1, 0, 1) ! -1006
            """);
        edge("50: -3, and the TRAY stays", """
            fill(0, 5, 9); tray(0, -1) ! -3; tray(0, 61) ! -3; burst(0, 0, 0, 0) = 0; soft(0, 1) = 9; soft(0, 7) = 9; soft(0, 11) = 0; write(0, 4, 1) = 1
            write(0, 5, 1) ! -1007
            """);
        edge("50: the code that the call tells first", "tray(4, 61) ! -2; tray(-1, -1) ! -2; tray(3, 61) ! -3");
        edge("50: A TRAY has n bytes, all 0 (in place of others)", """
            fill(0, 5, 9); tray(0, 3) = 0; write(0, 3, 1) ! -1007; burst(0, 0, 0, 0) = 0; known(0, 0) = 0; fill(0, 5, 9); tray(0, 60) = 0
            burst(0, 0, 0, 0) = 0; known(0, 0) = 0; fill(0, 60, 9); tray(0, 1); tray(0, 60); burst(0, 0, 0, 0) = 0; known(0, 0) = 0
            """);
        edge("50: TRAYS 0 to 3: each for itself", """
            fill(0, 1, 1); fill(1, 2, 2); fill(2, 3, 3); fill(3, 4, 4); burst(0, 0, 0, 0); burst(1, 0, 0, 1); burst(2, 0, 0, 2); burst(3, 0, 0, 3)
            soft(0, 1) = 1; soft(0, 5) = 0; soft(1, 5) = 2; soft(1, 9) = 0; soft(2, 9) = 3; soft(2, 3) = 0; soft(3, 3) = 4; soft(3, 7) = 0
            """);
    }

    private static void writes() {
        edge("51: -1002: no such TRAY", "tray(0, 1); tray(3, 1); write(0, 0, 1) = 1; write(3, 0, 1) = 1; write(-1, 0, 1) ! -1002; write(4, 0, 1) ! -1002; write(MIN, 0, 1) ! -1002; write(MAX, 0, 1) ! -1002");
        edge("51: -1006", "write(0, 0, 1) ! -1006; write(3, 0, 1) ! -1006; tray(3, 1); write(3, 0, 1) = 1; write(0, 0, 1) ! -1006");
        edge("51: -1007", """
            tray(0, 2); write(0, 0, 1) = 1; write(0, 1, 1) = 1; write(0, 2, 1) ! -1007; write(0, -1, 1) ! -1007; write(0, MIN, 1) ! -1007
            write(0, MAX, 1) ! -1007; write(0, 59, 1) ! -1007; tray(1, 0); write(1, 0, 1) ! -1007; tray(1, 60); write(1, 59, 1) = 1; write(1, 60, 1) ! -1007
            """);
        edge("51: the code that the call tells first", "write(4, -1, 1) ! -1002; write(-1, 60, 1) ! -1002; write(0, -1, 1) ! -1006; write(0, 60, 1) ! -1006");
        edge("51: v, cut to 8 bits: as it is there", """
            tray(0, 1); write(0, 0, 0) = 0; write(0, 0, 127) = 127; write(0, 0, 128) = -128; write(0, 0, 255) = -1; write(0, 0, 256) = 0
            write(0, 0, -1) = -1; write(0, 0, -128) = -128; write(0, 0, -129) = 127; write(0, 0, -256) = 0; write(0, 0, MAX) = -1; write(0, 0, MIN) = 0
            write(0, 0, 383) = 127; burst(0, 0, 0, 0) = 0; soft(0, 1) = 127
            """);
    }

    private static void lists() {
        String full = "lay(3, 2047, 0, 39, 9); burst(0, 0, 0, 3) = 0\n";
        edge("52: -2: the TRAY, the PROCESS", full + """
            tray(0, 5); lists(0, 0) = 5; lists(3, 0) = 39; lists(-1, 0) ! -2; lists(4, 0) ! -2; lists(MIN, 0) ! -2; lists(MAX, 0) ! -2; lists(0, -1) ! -2
            lists(0, 4) ! -2; lists(0, MIN) ! -2; lists(0, MAX) ! -2
            """);
        edge("52: -6: either", full + "lists(0, 0) ! -6; lists(3, 1) ! -6; lists(0, 1) ! -6; tray(0, 0); lists(0, 1) ! -6; lists(0, 0) = 0");
        edge("52: the code that the call tells first", "lists(4, 4) ! -2; lists(4, 0) ! -2; lists(0, 4) ! -2; lists(0, 0) ! -6");
        edge("52: as far as it has places: how many", full + """
            tray(0, 0); lists(0, 0) = 0; tray(0, 1); lists(0, 0) = 1; tray(0, 38); lists(0, 0) = 38; tray(0, 39); lists(0, 0) = 39
            tray(0, 40); lists(0, 0) = 39; tray(0, 60); lists(0, 0) = 39
            """);
        // CODE BIT 0 comes first; VERSION 0 has the CODE BITS 1, 5, 9, ..: SOFT of those tells the first bytes.
        edge("52: CODE BIT by CODE BIT, bytes behind the 39th stay", """
            lay(3, 1024, 0, 39, 9); burst(0, 0, 0, 3) = 0; fill(0, 60, 50); lists(0, 0) = 39; burst(1, 0, 0, 0); soft(1, 1) = 59; soft(1, 5) = 41
            soft(1, 29) = 41; tray(0, 1); lists(0, 0) = 1; burst(2, 0, 0, 0); soft(2, 1) = 9; soft(2, 5) = 0
            """);
        edge("52: each -127 at least, 127 at most", """
            tray(0, 6); write(0, 0, -126); write(0, 1, -127); write(0, 2, -128); write(0, 3, 126); write(0, 4, 127); burst(0, 0, 0, 0) = 0
            tray(1, 13); lists(1, 0) = 13; burst(1, 0, 0, 1); soft(0, 1) = -126; soft(0, 9) = -128; soft(0, 3) = 126; soft(0, 5) = -127; soft(0, 7) = 127
            soft(1, 5) = -126; soft(1, 9) = 0; soft(1, 3) = 126; soft(1, 11) = -127; soft(1, 6) = 127; soft(1, 0) = -127; soft(1, 1) = 0
            """);
        edge("52: each -127 at least, 127 at most: farther off", """
            tray(0, 2); write(0, 0, -128); write(0, 1, 127); burst(0, 0, 0, 0) = 0; burst(0, 0, 0, 0) = 0; soft(0, 1) = -256; soft(0, 5) = 254
            tray(1, 13); lists(1, 0) = 13; burst(1, 0, 0, 1); soft(1, 5) = -127; soft(1, 11) = 127; soft(0, 1) = -256; soft(0, 5) = 254
            """);
    }

    private static void images() {
        edge("53: -2 (IMAGES 0 to 1)", "image(0) = 0; image(1) = 0; image(-1) ! -2; image(2) ! -2; image(MIN) ! -2; image(MAX) ! -2");
        edge("54: -2", "image(0); image(1); restore(0) = 0; restore(1) = 0; restore(-1) ! -2; restore(2) ! -2; restore(MIN) ! -2; restore(MAX) ! -2");
        edge("54: -5: none was made", "offer(1); restore(0) ! -5; restore(1) ! -5; image(1) = 0; restore(0) ! -5; restore(1) = 0; image(0) = 0; restore(0) = 0");
        edge("54: the code that the call tells first", "restore(2) ! -2; restore(-1) ! -2; restore(0) ! -5");
        edge("53: An IMAGE is made: in place of an older one, the other stays", """
            offer(1); image(0); image(1); offer(2); image(0) = 0; offer(3); restore(1) = 0; count(0) = 1; restore(0) = 0; count(0) = 2; waiting(1) = 2
            restore(0) = 0; count(0) = 2
            """);
    }

    private static void restores() {
        String tray = "lay(3, 0, 0, 39, 100); tray(1, 0); fill(0, 3, 7)\n";
        for (int i = 0; i < 2; i++) {
            String image = "image(" + i + ")\n";
            String restore = "restore(" + i + ")\n";
            Script.alike("54: All that is in an IMAGE is as it was: as at first", tray + image + MESS + restore, tray + image);
            Script.alike("54: All that is in an IMAGE is as it was: behind much", tray + MESS + image + "link(8, 2, 9, 5, 20); offer(4); run(2, 60, 30, 40)\n" + restore,
                tray + MESS + image);
            Script.alike("54: All that is in an IMAGE is as it was: something of all there is", LinkEdgesTest.RICH + image + "link(8, 2, 9, 5, 20)\n"
                + GO.repeat(8) + "fade(0); offer(1); send(0, 39, NONE); answer(0, 1); report()\n" + restore, LinkEdgesTest.RICH + image);
            Script.alike("54: The IMAGE stays as it was made", tray + MESS + image + restore + "answer(3, 2); offer(8); run(1, 60, 39, 20); limit(3)\n" + restore,
                tray + MESS + image);
        }
        edge("IMAGES: all of THE LINK, not TRAYS", """
            fill(0, 2, 5); image(0); fill(0, 4, 6); tray(1, 0); link(1, 1, 1, 1, 16); restore(0) = 0; burst(0, 0, 0, 0) = 0; soft(0, 1) = 6; soft(0, 3) = 6
            write(1, 0, 0) ! -1007; count(17) = 48
            """);
        edge("IMAGES: all of THE LINK: WAIT and TRIES, too", """
            link(4, 4, 7, 1, 48); image(0); link(4, 4, 9, 3, 48); restore(0) = 0; come(0, 0, 1, 1); count(6) = 7; fade(0); offer(1); send(1, 39, NONE)
            answer(1, 0); count(12) = 1
            """);
        edge("IMAGES: (LIMIT, FADE, counts, too)", """
            limit(9); fade(8); come(0, 0, 0, 3); come(1, 0, 0, 4); image(1); limit(1); fade(0); come(2, 0, 1, 5); come(3, 0, 0, 5); restore(1) = 0
            count(18) = 9; count(19) = 8; count(8) = 1; count(10) = 1; given(0) = 3; given(1) = NONE; heard(2, 0) = NONE; count(4) = 1
            """);
        edge("IMAGES: whether the latest SENDING was HEARD, too", """
            offer(1); offer(2); fade(0); send(0, 39, NONE); fade(20); send(1, 39, NONE) = 1; image(0); answer(0, 2); send(0, 39, NONE) = 1; answer(1, 2)
            fade(0); send(1, 39, NONE); restore(0) = 0; answer(0, 0) = NONE; answer(1, 0) = 1
            """);
        edge("IMAGES: the LOADS that were GIVEN, too, as many as are kept", GO.repeat(3) + "image(0); offer(9); send(1, 39, NONE) = 1; given(0) = 9; restore(0) = 0; given(0) = 1; given(2) = 1; given(3) = NONE");
    }

    private static void counts() {
        edge("55: NONE for others", "count(-1) = NONE; count(20) = NONE; count(MIN) = NONE; count(MAX) = NONE; count(0) = 0; count(19) = 20");
        edge("55: each of 0 to 19", """
            link(5, 3, 9, 1, 40); limit(333); fade(0); offer(1); offer(2); offer(3); offer(4); send(0, 39, NONE); answer(0, 0); fade(44)
            send(1, 39, NONE) = 1; report() = 1; come(2, 0, 1, 7); come(3, 0, 3, 7); come(4, 0, 2, 30); fill(0, 1, 0); burst(4, 0, 0, 0) = 1; tick(2)
            count(0) = 2; count(1) = 2; count(2) = 0; count(3) = 1; count(4) = 0; count(5) = 2; count(6) = 7; count(7) = 2; count(8) = 0; count(9) = 0
            count(10) = 1; count(11) = 1; count(12) = 1; count(13) = 0; count(14) = 1; count(15) = 5; count(16) = 3; count(17) = 40; count(18) = 333
            count(19) = 44; tick(7); count(4) = 3; count(8) = 2; count(9) = 1; count(6) = NONE; count(7) = NONE; report() = 0; count(13) = 1; count(1) = 3
            """);
        edge("55: each count, something of all there is", LinkEdgesTest.RICH);
        edge("55: 6 the TIMER (NONE: it doesn't run), 7 MARK, an SN (so)", "count(6) = NONE; count(7) = NONE; come(0, 0, 1, 1); count(6) = 12; count(7) = 2; tick(12); count(6) = NONE; count(7) = NONE");
    }
}
