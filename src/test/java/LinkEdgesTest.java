/** The sentences on the link, sendings and answers that name an edge: promises 14 to 20. */
public final class LinkEdgesTest {
    // One BLOCK goes by PROCESS 0 and is reported.
    static final String GO = "offer(1) = 1; send(0, 39, NONE) = 1; report() = 0\n";

    // Something of all that there is: RESETS, LOST, LATE, TWICE, REPEATED, DROPPED, GIVEN, STORED, CONFIRMED, AGAIN, a TIMER that runs.
    static final String RICH = """
        come(0, 0, 0, 3); report(); come(0, 1, 2, 4); tick(12) = 1; report() = 0; count(13) = 2; count(9) = 1; count(4) = 3; fade(0)
        offer(1); offer(2); offer(3); offer(4); offer(5)
        send(0, 13, NONE); answer(0, 0); send(0, 13, NONE); answer(0, 0); send(0, 13, NONE); answer(0, 0); send(0, 13, NONE); answer(0, 0)
        count(12) = 1; send(1, 20, NONE); send(2, 5, NONE); answer(2, 1); come(3, 0, 4, 9); report() = 2; tick(3) = 0; come(3, 1, 4, 9)
        burst(3, 0, 1, 3) = 1; come(0, 0, 2, 1); limit(77); fade(33); send(0, 30, NONE) = 1
        again(0) = 5; kept(4, 1) = 1; count(5) = 1; count(4) = 3; come(2, 0, 6, 8); count(5) = 2; count(6) = 9; tick(2); count(8) = 2; count(10) = 1
        count(11) = 1; count(14) = 2; count(3) = 1; offer(31)
        """;

    private LinkEdgesTest() {
    }

    public static void main(String[] args) {
        linkNumbers();
        linkBegins();
        limits();
        fades();
        offers();
        sendRefused();
        noise();
        values();
        canSend();
        toggles();
        versions();
        answersRead();
        answersRefused();
        drops();
        bursts();
        heardOnes();
        Script.finish();
    }

    private static void edge(String sentence, String rows) {
        Script.edge(sentence, rows);
    }

    private static void linkNumbers() {
        edge("PROCESSES 0 and on (1 to 8 of them)", """
            link(1, 4, 12, 4, 48) = 0; count(15) = 1; process(0, 0) = NONE; process(1, 0) ! -2; heard(0, 0) = NONE; heard(1, 0) ! -2
            link(8, 4, 12, 4, 48) = 0; count(15) = 8; process(7, 0) = NONE; process(8, 0) ! -2; heard(7, 0) = NONE; heard(8, 0) ! -2
            link(0, 4, 12, 4, 48) ! -3; link(9, 4, 12, 4, 48) ! -3; link(MIN, 4, 12, 4, 48) ! -3; link(MAX, 4, 12, 4, 48) ! -3
            count(15) = 8
            """);
        edge("WINDOW (1 to 4)", """
            link(4, 1, 12, 4, 48) = 0; count(16) = 1; link(4, 4, 12, 4, 48) = 0; count(16) = 4
            link(4, 0, 12, 4, 48) ! -3; link(4, 5, 12, 4, 48) ! -3; link(4, MIN, 12, 4, 48) ! -3; link(4, MAX, 12, 4, 48) ! -3
            """);
        edge("WAIT (1 to 60): 1", "link(4, 4, 1, 4, 48) = 0; come(0, 0, 1, 1); count(6) = 1; tick(1) = 1; count(6) = NONE");
        edge("WAIT (1 to 60): 60", """
            link(4, 4, 60, 4, 48) = 0; come(0, 0, 1, 1); count(6) = 60; tick(59) = 0; count(6) = 1; tick(1) = 1; count(6) = NONE
            """);
        edge("WAIT (1 to 60): others are refused, and it stays", """
            link(4, 4, 7, 4, 48) = 0; link(4, 4, 0, 4, 48) ! -3; link(4, 4, 61, 4, 48) ! -3; link(4, 4, MIN, 4, 48) ! -3
            link(4, 4, MAX, 4, 48) ! -3; come(0, 0, 1, 1); count(6) = 7
            """);
        edge("TRIES (1 to 8): 1", """
            link(4, 4, 12, 1, 48) = 0; fade(0); offer(1); send(0, 39, NONE) = NONE; answer(0, 0) = NONE; count(12) = 1; process(0, 0) = NONE
            """);
        edge("TRIES (1 to 8): 8", "link(4, 4, 12, 8, 48) = 0; fade(0); offer(1)\n"
            + "send(0, 39, NONE) = NONE; answer(0, 0) = NONE; count(12) = 0; process(0, 0) = 0\n".repeat(7)
            + "process(0, 3) = 7; send(0, 39, NONE) = NONE; process(0, 3) = 8; answer(0, 0) = NONE; count(12) = 1; process(0, 0) = NONE");
        edge("TRIES (1 to 8): others are refused, and they stay", """
            link(4, 4, 12, 2, 48) = 0; link(4, 4, 12, 0, 48) ! -3; link(4, 4, 12, 9, 48) ! -3; link(4, 4, 12, MIN, 48) ! -3
            link(4, 4, 12, MAX, 48) ! -3; fade(0); offer(1); send(0, 39, NONE); answer(0, 0); count(12) = 0; send(0, 39, NONE)
            answer(0, 0) = NONE; count(12) = 1
            """);
        edge("ROOM (16 to 48)", """
            link(4, 4, 12, 4, 16) = 0; count(17) = 16; place(16) ! -2; link(4, 4, 12, 4, 48) = 0; count(17) = 48; place(47) = 38
            link(4, 4, 12, 4, 15) ! -3; link(4, 4, 12, 4, 49) ! -3; link(4, 4, 12, 4, MIN) ! -3; link(4, 4, 12, 4, MAX) ! -3; count(17) = 48
            """);
        edge("14: -3: one of them, and nothing of the others is taken", """
            offer(3); send(0, 39, NONE); limit(9); link(8, 1, 60, 8, 15) ! -3; link(0, 1, 60, 8, 16) ! -3; link(0, 0, 0, 0, 0) ! -3
            count(15) = 4; count(16) = 4; count(17) = 48; count(18) = 9; count(8) = 1
            """);
    }

    private static void linkBegins() {
        String tray = "lay(3, 0, 0, 39, 100); tray(1, 0)\n";
        String mess = """
            limit(77); fade(33); offer(1); offer(2); offer(3); offer(4); offer(5); send(0, 39, NONE); send(1, 20, NONE); fade(0)
            send(2, 39, NONE); answer(2, 1); send(3, 39, NONE); answer(0, 0); burst(1, 0, 0, 3); burst(2, 0, 0, 3); burst(3, 0, 1, 3)
            report(); run(9, 30, 39, 90); answer(3, 2); offer(6)
            """;
        for (int processes : new int[] {1, 4, 8}) {
            String link = "link(" + processes + ", 3, 9, 2, 30)\n";
            Script.alike("14: THE LINK is all as at first with these", tray + mess + link, tray + link);
            Script.alike("14: THE LINK is all as at first with these, behind much", RICH + link + tray, link + tray);
        }
        Script.alike("14: a LINK of fewer PROCESSES leaves nothing on those beyond",
            "link(8, 4, 12, 4, 48); offer(1); offer(2); send(7, 39, NONE); send(6, 3, NONE); link(1, 4, 12, 4, 48); link(8, 4, 12, 4, 48)",
            "link(8, 4, 12, 4, 48)");
        edge("14: (LIMIT 500, FADE 20)", "limit(7); fade(3); link(4, 4, 12, 4, 48) = 0; count(18) = 500; count(19) = 20");
        edge("14: (IMAGES and TRAYS stay)", """
            fill(2, 5, 9); tray(1, 0); offer(7); image(1); link(1, 1, 1, 1, 16) = 0; burst(0, 0, 0, 2) = 0; soft(0, 7) = 9
            write(2, 4, 1) = 1; write(2, 5, 1) ! -1007; write(1, 0, 0) ! -1007; write(0, 0, 0) ! -1006; restore(0) ! -5
            restore(1) = 0; count(0) = 1; count(15) = 4
            """);
    }

    private static void limits() {
        edge("LIMIT (1 to 9999)", """
            limit(1) = 500; limit(9999) = 1; count(18) = 9999; limit(0) ! -3; limit(10000) ! -3; limit(-1) ! -3; limit(MIN) ! -3
            limit(MAX) ! -3; limit(500) = 9999
            """);
        edge("kept from -LIMIT to LIMIT: 1", """
            limit(1); offer(0); send(0, 39, NONE) = 1; soft(0, 0) = -1; soft(0, 8) = 1; best(0) = 5; sum(0, 5) = 39; margin(0) = 12
            """);
        edge("kept from -LIMIT to LIMIT: 9999, below", "link(1, 1, 1, 1, 16); limit(9999); fill(0, 60, -128)\n"
            + "burst(0, 0, 0, 0) = 0\n".repeat(15) + "soft(0, 1) = -9600; soft(0, 10) = -7680; burst(0, 0, 0, 0) = 0; soft(0, 1) = -9999\n"
            + "soft(0, 10) = -8192; burst(0, 0, 0, 0) = 0; soft(0, 1) = -9999; heard(0, 1) = 17; soft(0, 13) = 0");
        edge("kept from -LIMIT to LIMIT: 9999, above", "link(1, 1, 1, 1, 16); limit(9999); fill(0, 60, 127)\n"
            + "burst(0, 0, 0, 0) = 0\n".repeat(15) + "soft(0, 1) = 9525; burst(0, 0, 0, 0) = 0; soft(0, 1) = 9999; soft(0, 10) = 8128\n"
            + "burst(0, 0, 0, 0) = 0; burst(0, 0, 0, 0) = 0; burst(0, 0, 0, 0) = 0; soft(0, 10) = 9652; burst(0, 0, 0, 0) = 0; soft(0, 10) = 9999\n"
            + "sum(0, 2047) = 89991; rank(0, 2047) = 0; rank(0, 0) = 2047; lean(0, 0) = 19998; listed(0, 0) = 1919");
        edge("kept from -LIMIT to LIMIT: just at it, and one beyond", """
            limit(10); tray(0, 6); write(0, 0, 9); write(0, 1, 10); write(0, 2, 11); write(0, 3, -9); write(0, 4, -10); write(0, 5, -11)
            burst(0, 0, 0, 0) = 0; soft(0, 1) = 9; soft(0, 5) = 10; soft(0, 9) = 10; soft(0, 3) = -9; soft(0, 7) = -10; soft(0, 11) = -10
            """);
        edge("one behind the other, each time kept", """
            link(1, 1, 1, 1, 16); limit(10); tray(0, 26); write(0, 0, 20); write(0, 13, -5); write(0, 1, -20); write(0, 14, 5)
            write(0, 2, -5); write(0, 15, 20); burst(0, 0, 0, 0) = 0; soft(0, 1) = 5; soft(0, 5) = -5; soft(0, 9) = 10
            """);
        edge("15: (SOFT numbers stay as they are till they are added to)", """
            lay(0, 0, 0, 39, 60); burst(0, 0, 0, 0) = 0; limit(50) = 500; soft(0, 1) = -60; fill(1, 1, 0); burst(0, 0, 0, 1) = 0
            soft(0, 1) = -50; soft(0, 5) = -60; fill(1, 2, 1); limit(60) = 50; burst(0, 0, 0, 1) = 0; soft(0, 1) = -49; soft(0, 5) = -59
            limit(40) = 60; burst(0, 0, 0, 1) = 0; soft(0, 1) = -40; soft(0, 5) = -40; soft(0, 9) = -60
            """);
    }

    private static void fades() {
        edge("FADE (0 to 60)", """
            fade(0) = 20; fade(60) = 0; count(19) = 60; fade(-1) ! -3; fade(61) ! -3; fade(MIN) ! -3; fade(MAX) ! -3; fade(20) = 60
            """);
        edge("If FADE is 0, it isn't HEARD", """
            fade(0); offer(0); send(0, 39, NONE) = NONE; heard(0, 0) = NONE; heard(0, 1) = 0; soft(0, 0) = -99000006
            process(0, 0) = 0; process(0, 2) = 1; process(0, 3) = 1; process(0, 4) = 1; count(0) = 0; count(1) = 1; kept(0, 0) = 0
            """);
        edge("value by value FADE for a bit 1, less FADE for 0: 1 and 60", """
            fade(1); offer(0); offer(0); send(0, 39, NONE) = 1; soft(0, 8) = 1; soft(0, 0) = -1; fade(60); send(1, 39, NONE) = 1
            soft(1, 2) = 60; soft(1, 3) = -60; soft(1, 10) = 60; soft(1, 12) = -60
            """);
    }

    private static void offers() {
        edge("LOADS WAIT, 20 at most", "offer(1) = 1\n" + Script.each("offer(%d)", 18)
            + "offer(2) = 20; offer(3) ! -4; count(0) = 20; waiting(19) = 2; send(0, 39, NONE) = 1; count(0) = 19; offer(4) = 20; offer(5) ! -4");
        edge("17: -3 (LOAD 0 to 31)", "offer(0) = 1; offer(31) = 2; offer(-1) ! -3; offer(32) ! -3; offer(MIN) ! -3; offer(MAX) ! -3; count(0) = 2");
        edge("17: -3; -4: the one that it tells first", "offer(1)\n".repeat(20) + "offer(32) ! -3; offer(-1) ! -3; offer(31) ! -4; offer(0) ! -4");
    }

    private static void sendRefused() {
        edge("18: -2: the PROCESS", """
            offer(0); offer(1); send(0, 39, NONE) = 1; send(3, 39, NONE) = 1; send(-1, 39, NONE) ! -2; send(4, 39, NONE) ! -2
            send(MIN, 39, NONE) ! -2; send(MAX, 39, NONE) ! -2
            """);
        edge("18: -2: the TRAY (below NONE, above 3)", """
            offer(0); offer(1); tray(3, 1); tray(0, 1); send(0, 39, -2) ! -2; send(0, 39, 4) ! -2; send(0, 39, MIN) ! -2; send(0, 39, MAX) ! -2
            send(0, 39, 3) = 1; send(1, 39, 0) = 1
            """);
        edge("18: -3: LENGTH", """
            offer(0); offer(1); send(0, 0, NONE) ! -3; send(0, 61, NONE) ! -3; send(0, -1, NONE) ! -3; send(0, MIN, NONE) ! -3
            send(0, MAX, NONE) ! -3; send(0, 1, NONE) = 0; send(1, 60, NONE) = 1
            """);
        edge("18: -6", "offer(0); send(0, 39, 0) ! -6; send(0, 39, 3) ! -6; tray(3, 0); send(0, 39, 0) ! -6; send(0, 39, 3) = 1");
        edge("18: -5: it CAN'T SEND", "send(0, 39, NONE) ! -5; offer(1); send(0, 39, NONE) = 1; send(0, 39, NONE) ! -5; send(1, 39, NONE) ! -5");
        edge("18: the code that the call tells first", """
            send(4, 0, 4) ! -2; send(0, 0, 4) ! -2; send(4, 0, 0) ! -2; send(0, 0, 0) ! -3; send(0, 61, 0) ! -3; send(0, 39, 0) ! -6
            tray(0, 1); send(0, 39, 0) ! -5; send(0, 0, 0) ! -3
            """);
        edge("18: 1: THE RECEIVER HAS one then, 0: not, NONE: it wasn't HEARD", """
            offer(9); offer(8); offer(7); send(0, 39, NONE) = 1; heard(0, 2) = 1; send(1, 1, NONE) = 0; heard(1, 2) = 0; fade(0)
            send(2, 39, NONE) = NONE; heard(2, 2) = 0; heard(2, 0) = NONE
            """);
    }

    private static void noise() {
        edge("18: noise: (NONE: none; an empty TRAY: none)", """
            offer(0); offer(0); tray(0, 0); send(0, 60, NONE) = 1; soft(0, 1) = -40; soft(0, 38) = 20; send(1, 60, 0) = 1; soft(1, 1) = -40
            soft(1, 10) = 40; soft(1, 0) = -40; soft(1, 38) = 20
            """);
        edge("18: byte i of a TRAY, round and round: one byte", """
            offer(0); fill(0, 1, 5); send(0, 39, 0) = 1; soft(0, 1) = -15; soft(0, 0) = -15; soft(0, 38) = 25; soft(0, 10) = 25
            """);
        edge("18: byte i of a TRAY, round and round: two bytes", """
            offer(0); tray(0, 2); write(0, 0, 3); write(0, 1, -3); send(0, 3, 0) = 0; soft(0, 1) = -17; soft(0, 5) = -23; soft(0, 9) = -17
            soft(0, 3) = 0
            """);
        edge("18: byte i of a TRAY: 60 bytes and a LENGTH of 60", """
            offer(0); tray(0, 60); write(0, 0, 1); write(0, 20, 2); write(0, 39, 4); write(0, 59, 8); send(0, 60, 0) = 1
            soft(0, 1) = -35; soft(0, 29) = -30; soft(0, 5) = -40; soft(0, 18) = -40; soft(0, 32) = -20
            """);
        edge("18: byte i of a TRAY: more bytes than the LENGTH, and one less", """
            offer(0); offer(0); tray(0, 60); write(0, 0, 7); write(0, 1, 9); write(0, 59, 99); send(0, 1, 0) = 0; soft(0, 1) = -13; soft(0, 5) = 0
            tray(0, 12); write(0, 0, 6); write(0, 11, 5); send(1, 13, 0) = 1; soft(1, 1) = -14; soft(1, 8) = 25; soft(1, 12) = -14
            """);
    }

    private static void values() {
        // LOAD 0 of SN 0 is the WORD 5: 1 in STEPS 8 and 10, the values 11 and 8 of VERSION 0; of SN 1 in 2 and 9, too.
        edge("noise added, -127 at least", """
            fade(60); offer(0); tray(0, 13); write(0, 0, -66); write(0, 1, -67); write(0, 2, -68); write(0, 3, -128); send(0, 13, 0) = 1
            soft(0, 1) = -126; soft(0, 5) = -127; soft(0, 9) = -127; soft(0, 3) = -127; soft(0, 7) = -60; soft(0, 8) = 60
            """);
        edge("noise added, 127 at most", """
            fade(60); offer(0); offer(0); tray(0, 13); write(0, 8, 66); write(0, 11, 67); send(0, 13, 0) = 1; soft(0, 10) = 126; soft(0, 8) = 127
            write(0, 8, 68); write(0, 0, 127); write(0, 11, -128); send(1, 13, 0); soft(1, 10) = 127; soft(1, 1) = 67; soft(1, 8) = -68
            """);
        edge("noise added, 127 at most: 127 on a bit 1", "fade(60); offer(0); fill(0, 13, 127); send(0, 13, 0); soft(0, 10) = 127; soft(0, 1) = 67");
        edge("noise added, -127 at least: on a bit 1", """
            fade(1); offer(0); fill(0, 39, -128); send(0, 39, 0) = 0; soft(0, 1) = -127; soft(0, 8) = -127; soft(0, 10) = -127
            """);
    }

    private static void canSend() {
        for (int window = 1; window <= 4; window++) {
            String link = "link(8, " + window + ", 12, 4, 48); fade(0)\n" + "offer(3)\n".repeat(6);
            StringBuilder full = new StringBuilder(link);
            for (int p = 0; p < window; p++) {
                full.append("send(" + p + ", 39, NONE) = NONE; process(" + p + ", 0) = " + p + "\n");
            }
            edge("a LOAD WAITS and NEXT is less than WINDOW from BASE: " + window, full + "count(1) = " + window
                + "; send(" + window + ", 39, NONE) ! -5; count(0) = " + (6 - window));
        }
        String six = GO.repeat(6);
        edge("NEXT is less than WINDOW from BASE: around the end of the SNs", six + """
            count(1) = 6; count(2) = 6; fade(0); offer(6); offer(7); offer(8); offer(9); offer(10); send(0, 39, NONE); send(1, 39, NONE)
            count(1) = 0; send(2, 39, NONE) = NONE; count(1) = 1; send(3, 39, NONE) = NONE; count(1) = 2; process(3, 0) = 1; answer(3, 1)
            send(3, 39, NONE) ! -5; count(2) = 6
            """);
        edge("A PROCESS CAN SEND, if it isn't ASKED, and has a BLOCK: with a full WINDOW and no LOAD", """
            link(2, 1, 12, 4, 48); fade(0); offer(1); send(0, 39, NONE); send(0, 39, NONE) ! -5; answer(0, 0); send(0, 39, NONE) = NONE
            process(0, 3) = 2; send(1, 39, NONE) ! -5
            """);
        edge("or is idle and AGAIN isn't empty: with a full WINDOW and no LOAD", """
            link(2, 1, 12, 4, 48); fade(0); offer(1); send(0, 39, NONE); answer(0, 1) = 1; send(0, 39, NONE) ! -5; send(1, 39, NONE) ! -5
            report() = 1; count(3) = 1; send(1, 39, NONE) = NONE; process(1, 0) = 0; count(3) = 0; send(0, 39, NONE) ! -5
            """);
        edge("it has the first of AGAIN (which leaves that), else a new BLOCK", """
            fade(0); offer(11); offer(12); offer(13); send(0, 39, NONE); send(1, 39, NONE); answer(0, 1); answer(1, 1); report() = 2
            again(0) = 0; again(1) = 1; send(3, 39, NONE); process(3, 0) = 0; process(3, 1) = 11; again(0) = 1; again(1) = NONE; count(0) = 1
            send(0, 39, NONE); process(0, 0) = 1; again(0) = NONE; send(1, 39, NONE); process(1, 0) = 2; process(1, 1) = 13; count(0) = 0
            """);
        edge("NEXT is one more, 0 behind 7", GO.repeat(7) + "count(1) = 7; " + GO + "count(1) = 0; count(2) = 0; count(4) = 0; " + GO
            + "count(1) = 1; process(0, 0) = NONE; count(8) = 9; count(13) = 0");
    }

    private static void toggles() {
        edge("if idle, its TOGGLE changes: 0, 1, 0", """
            process(0, 2) = 0; offer(1); offer(2); offer(3); send(0, 39, NONE); process(0, 2) = 1; heard(0, 0) = 1; answer(0, 0) = 1
            process(0, 2) = 1; send(0, 39, NONE); process(0, 2) = 0; heard(0, 0) = 0; answer(0, 0) = 1; send(0, 39, NONE); process(0, 2) = 1
            """);
        edge("its TOGGLE changes if idle alone", """
            offer(1); send(0, 1, NONE) = 0; process(0, 2) = 1; answer(0, 0) = 0; send(0, 1, NONE) = 0; process(0, 2) = 1; heard(0, 1) = 2
            """);
        edge("TRIED is 0 for what is new, for what goes AGAIN too", """
            fade(0); offer(1); send(0, 39, NONE); answer(0, 0); send(0, 39, NONE); process(0, 3) = 2; answer(0, 1); process(0, 3) = 0
            report() = 1; send(0, 39, NONE); process(0, 0) = 0; process(0, 3) = 1; process(0, 5) = 2
            """);
    }

    private static void versions() {
        // LENGTH 1 tells the VERSION: CODE BITS 1, 16, 19, 0 are the first of VERSIONS 0, 2, 3, 1.
        edge("The VERSION is 0, 2, 3, 1 by TRIED modulo 4", """
            link(1, 1, 12, 8, 48); offer(0)
            send(0, 1, NONE) = 0; soft(0, 1) = -20; soft(0, 16) = 0; process(0, 5) = 2; answer(0, 0) = 0
            send(0, 1, NONE) = 0; soft(0, 16) = -20; soft(0, 19) = 0; process(0, 5) = 3; answer(0, 0) = 0
            send(0, 1, NONE) = 0; soft(0, 19) = -20; soft(0, 0) = 0; process(0, 5) = 1; answer(0, 0) = 0
            send(0, 1, NONE) = 0; soft(0, 0) = -20; soft(0, 1) = -20; process(0, 5) = 0; answer(0, 0) = 0
            send(0, 1, NONE) = 0; soft(0, 1) = -40; process(0, 5) = 2; answer(0, 0) = 0
            send(0, 1, NONE) = 0; soft(0, 16) = -40; process(0, 5) = 3; answer(0, 0) = 0
            send(0, 1, NONE) = 0; soft(0, 19) = -40; process(0, 5) = 1; answer(0, 0) = 0
            send(0, 1, NONE) = 0; soft(0, 0) = -40; process(0, 5) = 0; process(0, 3) = 8; answer(0, 0) = 0; process(0, 5) = NONE
            """);
    }

    private static void answersRead() {
        String heardWell = "offer(3); send(0, 39, NONE) = 1\n";
        String heardBadly = "offer(3); send(0, 1, NONE) = 0\n";
        String notHeard = "fade(0); offer(3); send(0, 39, NONE) = NONE\n";
        String off = "; process(0, 0) = NONE; process(0, 4) = 0; process(0, 3) = 0; kept(0, 0) = 3; count(12) = 0";
        String on = "; process(0, 0) = 0; process(0, 4) = 0; process(0, 3) = 1; kept(0, 0) = 3; count(12) = 0";
        edge("An ANSWER is read: YES, if the latest SENDING was HEARD and the PROCESS HAS one", heardWell + "answer(0, 0) = 1" + off);
        edge("NO, if HEARD and it doesn't", heardBadly + "answer(0, 0) = 0" + on);
        edge("nothing, if it wasn't HEARD", notHeard + "answer(0, 0) = NONE" + on);
        edge("Misread: NO for YES", heardWell + "answer(0, 1) = 0" + on);
        edge("Misread: YES for NO", heardBadly + "answer(0, 1) = 1" + off);
        edge("Misread: YES for nothing", notHeard + "answer(0, 1) = 1" + off);
        edge("19: 2: nothing is read: for YES", heardWell + "answer(0, 2) = NONE" + on);
        edge("19: 2: nothing is read: for NO", heardBadly + "answer(0, 2) = NONE" + on);
        edge("19: 2: nothing is read: for nothing", notHeard + "answer(0, 2) = NONE" + on);
        edge("if the latest SENDING was HEARD: an earlier one doesn't count", """
            offer(3); send(0, 39, NONE) = 1; answer(0, 2) = NONE; fade(0); send(0, 39, NONE) = NONE; heard(0, 2) = 1; answer(0, 0) = NONE
            fade(20); send(0, 39, NONE) = 1; count(14) = 1; answer(0, 0) = 1
            """);
        edge("(THE SENDER's by that PROCESS): a burst from elsewhere isn't one", notHeard + """
            lay(0, 5, 0, 39, 50); burst(0, 0, 1, 0) = 1; heard(0, 2) = 1; answer(0, 0) = NONE
            """);
    }

    private static void answersRefused() {
        edge("19: -2", """
            offer(1); offer(2); send(0, 39, NONE); send(3, 39, NONE); answer(-1, 0) ! -2; answer(4, 0) ! -2; answer(MIN, 0) ! -2; answer(MAX, 0) ! -2
            answer(0, 0) = 1; answer(3, 0) = 1
            """);
        edge("19: -3: how (0 to 2)", """
            offer(1); send(0, 39, NONE); answer(0, -1) ! -3; answer(0, 3) ! -3; answer(0, MIN) ! -3; answer(0, MAX) ! -3; answer(0, 2) = NONE
            """);
        edge("19: -5: it isn't ASKED", """
            answer(0, 0) ! -5; offer(1); send(0, 1, NONE) = 0; answer(1, 0) ! -5; answer(0, 0) = 0; answer(0, 0) ! -5; answer(0, 1) ! -5
            answer(0, 2) ! -5; process(0, 0) = 0
            """);
        edge("19: the code that the call tells first", "answer(4, 3) ! -2; answer(-1, -1) ! -2; answer(0, 3) ! -3; answer(0, -1) ! -3; answer(0, 0) ! -5");
    }

    private static void drops() {
        edge("if TRIED is TRIES, is idle and one more is DROPPED: by nothing", """
            link(2, 4, 12, 2, 48); fade(0); offer(1); send(0, 39, NONE); answer(0, 0) = NONE; process(0, 0) = 0; send(0, 39, NONE)
            answer(0, 0) = NONE; process(0, 0) = NONE; process(0, 4) = 0; count(12) = 1; kept(0, 0) = 1; count(3) = 0; report() = 1
            """);
        edge("if TRIED is TRIES, is idle and one more is DROPPED: by NO", """
            link(2, 4, 12, 1, 48); offer(1); offer(2); send(0, 1, NONE) = 0; answer(0, 0) = 0; process(0, 0) = NONE; count(12) = 1
            send(1, 39, NONE) = 1; answer(1, 1) = 0; process(1, 0) = NONE; count(12) = 2
            """);
        edge("By YES the PROCESS is idle: none is DROPPED, if TRIED is TRIES", """
            link(2, 4, 12, 1, 48); offer(1); offer(2); send(0, 39, NONE) = 1; answer(0, 0) = 1; count(12) = 0; send(1, 1, NONE) = 0
            answer(1, 1) = 1; process(1, 0) = NONE; count(12) = 0
            """);
    }

    private static void bursts() {
        edge("20: -2: the PROCESS", """
            fill(0, 1, 1); burst(0, 0, 0, 0) = 0; burst(3, 0, 0, 0) = 0; burst(-1, 0, 0, 0) ! -2; burst(4, 0, 0, 0) ! -2; burst(MIN, 0, 0, 0) ! -2
            burst(MAX, 0, 0, 0) ! -2
            """);
        edge("20: -2: VERSION", """
            fill(0, 1, 1); burst(0, 0, 0, 0) = 0; soft(0, 1) = 1; burst(0, 3, 0, 0) = 0; soft(0, 19) = 1; burst(0, -1, 0, 0) ! -2
            burst(0, 4, 0, 0) ! -2; burst(0, MIN, 0, 0) ! -2; burst(0, MAX, 0, 0) ! -2
            """);
        edge("20: -2: TOGGLE (0, 1)", """
            fill(0, 1, 1); burst(0, 0, 0, 0) = 0; heard(0, 0) = 0; burst(0, 0, 1, 0) = 0; heard(0, 0) = 1; burst(0, 0, -1, 0) ! -2
            burst(0, 0, 2, 0) ! -2; burst(0, 0, MIN, 0) ! -2; burst(0, 0, MAX, 0) ! -2
            """);
        edge("20: -2: the TRAY", """
            fill(0, 1, 1); fill(3, 1, 1); burst(0, 0, 0, 0) = 0; burst(0, 0, 0, 3) = 0; burst(0, 0, 0, -1) ! -2; burst(0, 0, 0, 4) ! -2
            burst(0, 0, 0, MIN) ! -2; burst(0, 0, 0, MAX) ! -2
            """);
        edge("20: -6; -4: there are none", "burst(0, 0, 0, 0) ! -6; burst(0, 0, 0, 3) ! -6; tray(0, 0); burst(0, 0, 0, 0) ! -4; tray(0, 1); burst(0, 0, 0, 0) = 0");
        edge("20: the code that the call tells first", """
            burst(4, 4, 2, 4) ! -2; burst(4, 0, 0, 0) ! -2; burst(0, 4, 0, 0) ! -2; burst(0, 0, 2, 0) ! -2; burst(0, 0, 0, 0) ! -6; tray(0, 0)
            burst(4, 0, 0, 0) ! -2; burst(0, -1, 0, 0) ! -2; burst(0, 0, -1, 0) ! -2; burst(0, 0, 0, 0) ! -4
            """);
        edge("20: its LENGTH how many there are: 1", "fill(0, 1, 7); burst(0, 0, 0, 0) = 0; soft(0, 1) = 7; soft(0, 5) = 0; known(0, 0) = 1");
        edge("20: its LENGTH how many there are (60 at most)", """
            fill(0, 60, 7); write(0, 59, 5); burst(0, 0, 0, 0); soft(0, 1) = 14; soft(0, 29) = 12; soft(0, 20) = 7; known(0, 0) = 39
            """);
        edge("20: the bytes of a TRAY (-128, too)", """
            tray(0, 2); write(0, 0, -128); write(0, 1, 127); burst(0, 0, 0, 0) = 0; soft(0, 1) = -128; soft(0, 5) = 127; burst(0, 0, 0, 0) = 0
            soft(0, 1) = -256; soft(0, 5) = 254
            """);
        edge("20: (THE SENDER stays as it is)", """
            offer(9); send(0, 1, NONE) = 0; lay(0, 5, 0, 13, 50); burst(1, 0, 1, 0) = 1; count(4) = 1; count(1) = 1; count(2) = 0; process(0, 4) = 1
            process(0, 3) = 1; process(1, 0) = NONE; process(1, 2) = 0; kept(0, 1) = 0; count(3) = 0
            """);
    }

    private static void heardOnes() {
        edge("if the TOGGLE isn't the one it saw, all SOFT are 0, BURSTS are 0, it HAS none; it saw that", """
            fill(0, 1, -9); burst(0, 0, 0, 0) = 0; burst(0, 0, 0, 0) = 0; heard(0, 0) = 0; heard(0, 1) = 2; soft(0, 1) = -18
            burst(0, 1, 1, 0) = 0; heard(0, 0) = 1; heard(0, 1) = 1; soft(0, 1) = 0; soft(0, 0) = -9
            come(1, 0, 0, 3); heard(1, 2) = 1; burst(1, 0, 1, 0) = 0; heard(1, 2) = 0; heard(1, 1) = 1; soft(1, 5) = 0
            """);
        edge("If it HAS: one more is REPEATED", """
            come(0, 0, 0, 3); heard(0, 1) = 1; fill(0, 1, 5); burst(0, 0, 0, 0) = 1; count(14) = 1; heard(0, 1) = 1; heard(0, 2) = 1; soft(0, 1) = -9
            burst(0, 1, 0, 0) = 1; count(14) = 2; count(8) = 1; count(10) = 0; burst(0, 0, 1, 0) = 0; count(14) = 2
            """);
        edge("BURSTS are one more, if it doesn't HAVE one", """
            fill(0, 1, 0); heard(0, 1) = 0; burst(0, 0, 0, 0) = 0; heard(0, 1) = 1; burst(0, 0, 0, 0) = 0; heard(0, 1) = 2; count(14) = 0
            """);
        edge("if THE BEST is WHOLE, it HAS it: of like ones the least isn't, though a WHOLE one is as good", """
            fill(0, 1, 0); burst(0, 0, 0, 0) = 0; best(0) = 0; ties(0, 1) = 256; heard(0, 2) = 0; count(8) = 0
            """);
    }
}
