import java.nio.charset.StandardCharsets;

/** How the tests of the edges are told: a sentence of the document, then calls on x with the answers that are due. */
class Edges {
    static final int NONE = PathStream.NONE;
    static final int LOW = Integer.MIN_VALUE;
    static final int HIGH = Integer.MAX_VALUE;
    // The right token is 17 where the key is 0.
    static final String HEAD = "stream 10 unit 5 window 10 key 0;";
    static final String ONE = HEAD + "path a delay 1;";
    static final String TWO = ONE + "path b delay 2;join b at 0 token 17;";
    static final String PAIR = "stream 20 unit 5 window 20 key 0;path a delay 1;path b delay 1;join b at 0 token 17;";

    // Losses, four paths, slow reading, pieces of two sizes.
    static final String RICH = "stream 120 unit 7 window 60 key 41;path a delay 3;path b delay 1;path c delay 2;path d delay 5;"
        + "join b at 0 token 288;join c at 1 token 288;join d at 2 token 288;drops (number+path*2)%5=3;picks flying*3+delay;"
        + "reads 5+tick%3;waits delay*3+1;";

    static int wrong = 0;
    static String sentence = "";
    static PathStream x;

    static void says(String words) {
        sentence = words;
    }

    static void due(String call, int got, int want) {
        if (got != want) {
            wrong++;
            System.out.println("'" + sentence + "': " + call + " answered " + got + ", due is " + want);
        }
    }

    static void due(String call, boolean got, boolean want) {
        due(call, got ? 1 : 0, want ? 1 : 0);
    }

    static void tape(byte[] bytes) {
        for (int k = 0; k < bytes.length; k += 20) {
            int[] v = new int[5];
            for (int j = 0; j < 20; j++) {
                v[j / 4] = v[j / 4] << 8 | (k + j < bytes.length ? bytes[k + j] & 255 : 0);
            }
            x.feed(v[0], v[1], v[2], v[3], v[4]);
        }
        x.end(bytes.length);
    }

    static int tell(String text) {
        tape(text.getBytes(StandardCharsets.ISO_8859_1));
        return x.stream();
    }

    static int meet(int... bytes) {
        byte[] b = new byte[bytes.length];
        for (int k = 0; k < b.length; k++) {
            b[k] = (byte) bytes[k];
        }
        tape(b);
        return x.meet();
    }

    static void begin(String text) {
        x = new PathStream();
        tell(text);
        due("fault of '" + text + "'", x.fault(0), 0);
        due("its place", x.fault(1), NONE);
    }

    static void good(String text, int statements) {
        x = new PathStream();
        due("stream of '" + text + "'", tell(text), statements);
        due("fault of '" + text + "'", x.fault(0), 0);
        due("place in '" + text + "'", x.fault(1), NONE);
    }

    static void bad(String text, int kind, int place) {
        x = new PathStream();
        due("stream of '" + text + "'", tell(text), NONE);
        due("fault of '" + text + "'", x.fault(0), kind);
        due("place in '" + text + "'", x.fault(1), place);
    }

    /** A text with a fault at the sign ^, which is left out. */
    static void at(String marked, int kind) {
        int place = marked.indexOf('^');
        bad(marked.substring(0, place) + marked.substring(place + 1), kind, place);
    }

    static void pass(int ticks) {
        for (int left = ticks; left > 0; left -= 100) {
            x.ticks(Math.min(left, 100));
        }
    }

    /** The answers of has() from 0 to 15, where the stream's. */
    static int[] all() {
        int[] answers = new int[16];
        for (int k = 0; k < 16; k++) {
            answers[k] = x.has(k);
        }
        return answers;
    }

    static void same(String call, int[] got, int[] want) {
        for (int k = 0; k < want.length; k++) {
            due(call + " " + k, got[k], want[k]);
        }
    }

    static void keptRow(int k, int kind, int path, int value) {
        due("kept " + k + " kind", x.kept(k, 0), kind);
        due("kept " + k + " path", x.kept(k, 1), path);
        due("kept " + k + " value", x.kept(k, 2), value);
    }

    static void tellsRow(int path, int ticks, int which, int left) {
        due("tells ticks", x.tells(path, 0), ticks);
        due("tells which", x.tells(path, 1), which);
        due("tells left", x.tells(path, 2), left);
    }

    static int[] pathRow(int path) {
        int[] row = new int[9];
        for (int k = 0; k < 9; k++) {
            row[k] = x.path(path, k);
        }
        return row;
    }

    /** All that can be asked of x without going on, but for the ACTS, in some 180 calls. */
    static int[] watch() {
        int[] seen = new int[200];
        int at = 0;
        for (int k = 0; k < 15; k++) {
            seen[at++] = x.has(k);
        }
        for (int path = 0; path < 4; path++) {
            for (int what = 0; what < 9; what++) {
                seen[at++] = x.path(path, what);
            }
        }
        for (int k = 0; k < 11; k++) {
            for (int what = 0; what < 6; what++) {
                seen[at++] = x.segment(k, what);
            }
        }
        for (int k = 0; k < 10; k++) {
            for (int what = 0; what < 3; what++) {
                seen[at++] = x.kept(k, what);
            }
        }
        for (int k = 0; k < 24; k++) {
            seen[at++] = x.octet(5 * k);
        }
        for (int k = 0; k < 4; k++) {
            seen[at++] = x.refusals(k);
        }
        seen[at++] = x.finish();
        return seen;
    }

    static void report() {
        System.out.println(wrong == 0 ? "all answers are as due" : wrong + " answers are not as due");
        if (wrong != 0) {
            System.exit(1);
        }
    }
}
