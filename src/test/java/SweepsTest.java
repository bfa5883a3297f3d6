/**
 * Promises 2 to 12 by all arguments that can be, in every ROOM; only between() is asked by one pair of WORDS for each
 * ROOM, VERSIONS and LENGTH. What is due is counted here in a way of its own: a WORD is multiplied without carry,
 * DISTANCES grow value by value, and neither the class nor PlainJoiner is asked.
 */
public final class SweepsTest {
    private static final int NONE = FadeJoiner.NONE;
    // PLACES as the document has them: a STREAM's cells read by columns 0, 2, 1, 3; '.' is EMPTY, a letter a STEP.
    private static final String STREAM = ".bfj.dhl.cgkaeim";

    private static final int[][] CODE = new int[2048][39];
    private static final int[] WHOLE = new int[256];
    private static int wrong = 0;
    private static FadeJoiner x;
    private static int left;

    private SweepsTest() {
    }

    public static void main(String[] args) {
        words();
        for (int room = 16; room <= 48; room++) {
            places(room);
            sendings(room);
            covered(room);
            distances(room);
        }
        for (int room : new int[] {16, 29, 48}) {
            pairs(room, 5, 20);
            pairs(room, 15, 13);
            pairs(room, 1, 39);
        }
        System.out.println(wrong == 0 ? "all arguments are answered as due" : wrong + " answers are not as due");
        System.exit(wrong == 0 ? 0 : 1);
    }

    private static void due(String call, long got, long want) {
        if (got != want) {
            wrong++;
            System.out.println(call + " answered " + got + ", due is " + want);
        }
    }

    /** An object of a ROOM that has calls left; 512 are the most. */
    private static FadeJoiner joiner(int room) {
        if (left == 0) {
            x = new FadeJoiner();
            x.link(1, 1, 1, 1, room);
            left = 511;
        }
        left--;
        return x;
    }

    private static void words() {
        int[] rests = new int[2048];
        for (int n = 0; n < 256; n++) {
            // 1011 goes into a product of it without a REST, so what is added below it is the REST.
            for (int low = 0; low < 8; low++) {
                rests[times(n, 0b1011) ^ low] = low;
            }
        }
        int many = 0;
        for (int word = 0; word < 2048; word++) {
            if (rests[word] == 5) {
                WHOLE[many++] = word;
            }
            long bits = 0;
            for (int t = 0; t < 13; t++) {
                // The highest of the 13 bits of a product is STEP 0.
                CODE[word][t] = times(word, 0b100) >> (12 - t) & 1;
                CODE[word][13 + t] = times(word, 0b111) >> (12 - t) & 1;
                CODE[word][26 + t] = times(word, 0b101) >> (12 - t) & 1;
            }
            for (int c = 0; c < 39; c++) {
                bits |= (long) CODE[word][c] << c;
            }
            due("whole(" + word + ")", joiner(48).whole(word), rests[word] == 5 ? 1 : 0);
            due("bits(" + word + ")", joiner(48).bits(word), bits);
        }
        due("WHOLE WORDS", many, 256);
        for (int n = 0; n < 256; n++) {
            due("the SN and LOAD " + n, WHOLE[n] >> 3, n);
            due("word(" + (n >> 5) + ", " + (n & 31) + ")", joiner(48).word(n >> 5, n & 31), WHOLE[n]);
        }
    }

    /** The product without carry. */
    private static int times(int a, int b) {
        int product = 0;
        for (int bit = 0; bit < 11; bit++) {
            product ^= (a >> bit & 1) * (b << bit);
        }
        return product;
    }

    private static int bitAt(int place) {
        int stream = place < 16 ? 0 : place % 2 == 0 ? 1 : 2;
        char cell = STREAM.charAt(place < 16 ? place : (place - 16) / 2);
        return cell == '.' ? NONE : 13 * stream + cell - 'a';
    }

    private static int[] row(int room, int version) {
        int[] row = new int[60];
        int place = version * room / 4;
        for (int i = 0; i < 60; place = place + 1 == room ? 0 : place + 1) {
            if (bitAt(place) != NONE) {
                row[i++] = bitAt(place);
            }
        }
        return row;
    }

    private static void places(int room) {
        left = 0;
        for (int place = 0; place <= 48; place++) {
            due("room " + room + ", place(" + place + ")", joiner(room).place(place), place < room ? bitAt(place) : -2);
        }
    }

    private static void sendings(int room) {
        for (int version = 0; version < 4; version++) {
            int[] row = row(room, version);
            for (int length = 1; length <= 60; length++) {
                for (int i = 0; i <= 60; i++) {
                    due("room " + room + ", sent(" + version + ", " + length + ", " + i + ")", joiner(room).sent(version, length, i),
                        i < length ? row[i] : NONE);
                }
            }
        }
    }

    private static void covered(int room) {
        for (int set = 0; set < 16; set++) {
            long sent = 0;
            for (int length = 1; length <= 60; length++) {
                for (int version = 0; version < 4; version++) {
                    sent |= (set >> version & 1) == 1 ? 1L << row(room, version)[length - 1] : 0;
                }
                String asked = "(" + set + ", " + length + ") in room " + room;
                due("covers" + asked, joiner(room).covers(set, length), Long.bitCount(sent));
                due("lacks" + asked, joiner(room).lacks(set, length), ~sent & (1L << 39) - 1);
            }
        }
    }

    private static void distances(int room) {
        int[][] apart = new int[16][61];
        for (int set = 0; set < 16; set++) {
            // From another WORD each time: it is alike for each one.
            int one = WHOLE[(83 * set + 29 * room) % 256];
            int any = (839 * set + 577 * room) % 2048;
            int[] fromOne = new int[2048];
            int[] fromAny = new int[2048];
            for (int length = 1; length <= 60; length++) {
                for (int version = 0; version < 4; version++) {
                    if ((set >> version & 1) == 1) {
                        addUnlike(fromOne, one, row(room, version)[length - 1]);
                        addUnlike(fromAny, any, row(room, version)[length - 1]);
                    }
                }
                String asked = "room " + room + ", distance(" + set + ", " + length + ", ";
                int[] all = least(fromAny, any, false);
                int[] whole = least(fromOne, one, true);
                due(asked + "0)", joiner(room).distance(set, length, 0), all[0]);
                due(asked + "1)", joiner(room).distance(set, length, 1), whole[0]);
                due(asked + "2)", joiner(room).distance(set, length, 2), all[1]);
                due(asked + "3)", joiner(room).distance(set, length, 3), whole[1]);
                apart[set][length] = whole[0];
                int other = (1237 * length + 31 * set + room) % 2048;
                due("room " + room + ", between(" + any + ", " + other + ", " + set + ", " + length + ")",
                    joiner(room).between(any, other, set, length), fromAny[other]);
            }
        }
        lengths(room, apart);
        fewest(room, apart);
    }

    private static void addUnlike(int[] from, int one, int bit) {
        for (int word = 0; word < 2048; word++) {
            from[word] += CODE[word][bit] ^ CODE[one][bit];
        }
    }

    /** The least DISTANCE from one WORD, and how many are at that. */
    private static int[] least(int[] from, int one, boolean wholeOnes) {
        int[] found = {Integer.MAX_VALUE, 0};
        for (int n = 0; n < (wholeOnes ? 256 : 2048); n++) {
            int word = wholeOnes ? WHOLE[n] : n;
            if (word != one && from[word] < found[0]) {
                found[0] = from[word];
                found[1] = 0;
            }
            found[1] += word != one && from[word] == found[0] ? 1 : 0;
        }
        return found;
    }

    private static void lengths(int room, int[][] apart) {
        for (int set = 0; set < 16; set++) {
            for (int d = 1; d <= 60; d++) {
                int length = 1;
                while (length <= 60 && apart[set][length] < d) {
                    length++;
                }
                due("room " + room + ", shortest(" + set + ", " + d + ")", joiner(room).shortest(set, d), length <= 60 ? length : NONE);
            }
        }
    }

    private static void fewest(int room, int[][] apart) {
        int[] byFewest = {0, 1, 2, 4, 8, 3, 5, 6, 9, 10, 12, 7, 11, 13, 14, 15};
        for (int length = 1; length <= 60; length++) {
            for (int d = 1; d <= 60; d++) {
                int at = 0;
                while (at < 16 && apart[byFewest[at]][length] < d) {
                    at++;
                }
                due("room " + room + ", versions(" + length + ", " + d + ")", joiner(room).versions(length, d), at < 16 ? byFewest[at] : NONE);
            }
        }
    }

    /** "(alike for each one)": from every WHOLE WORD, and from every 8th of all. */
    private static void pairs(int room, int set, int length) {
        left = 0;
        int[] answers = new int[4];
        for (int what = 0; what < 4; what++) {
            answers[what] = joiner(room).distance(set, length, what);
        }
        for (int n = 0; n < 512; n++) {
            boolean wholeOnes = n < 256;
            int one = wholeOnes ? WHOLE[n] : 8 * (n - 256) + n % 8;
            int[] from = new int[2048];
            for (int version = 0; version < 4; version++) {
                for (int i = 0; i < length && (set >> version & 1) == 1; i++) {
                    addUnlike(from, one, row(room, version)[i]);
                }
            }
            int[] found = least(from, one, wholeOnes);
            String asked = "room " + room + ", from " + one + ", distance(" + set + ", " + length + ", ";
            due(asked + "least)", answers[wholeOnes ? 1 : 0], found[0]);
            due(asked + "how many)", answers[wholeOnes ? 3 : 2], found[1]);
        }
    }
}
