import java.util.Random;

/** No call ever throws or hangs: broken texts, any arguments, in any order. The runs are the same each time. */
public final class HardyRuns {
    private static final int[] EDGES = {0, 1, -1, 2, 3, 4, 5, 6, 9, 10, 16, 17, 40, 60, 99, 100, 101, 199, 200, 201, 999, 1000,
        Integer.MAX_VALUE, Integer.MIN_VALUE, 1 << 30, -100};
    private static final String[] BITS = {"stream 200 unit 1 window 99 key 0;", "path a delay 1;", "path b delay 9;", "path c delay 3;",
        "path d delay 2;", "join b at 0 token 17;", "join c at 1 token 17;", "join d at 3 token 18;", "loss 30;", "drops ", "picks ",
        "reads ", "waits ", "tick", "number", "from", "cwnd", "flying", "fails", "ready", "ahead", "if(", "or", "and", "not ", "all",
        "min(", "max(", "(", ")", "[", "]", "+", "-", "*", "/", "%", "<", ">", "=", ",", ";", " ", "\n", "0", "7", "9999", "12345",
        "sevenab", "@", "\u00ff", "\u0000", "path", "delay"};

    private static final String[] GOOD = {
        "stream 200 unit 1 window 99 key 0;path a delay 1;path b delay 9;path c delay 3;path d delay 2;join b at 0 token 17;"
            + "join c at 1 token 17;join d at 3 token 17;loss 30;",
        "stream 200 unit 1 window 99 key 0;path a delay 9;path b delay 9;join b at 0 token 17;waits 99;drops number%2=0;",
        "stream 150 unit 7 window 33 key 3;path a delay 2;path b delay 3;join b at 2 token 110;picks (path*7+tick)%5-cwnd/900;"
            + "reads if(ahead>3,ready/2,ready-1);waits max(delay*2+1,fails*(0-5)/0);drops tick%3=0 and not path=1;",
        "stream 9 unit 20 window 10 key 999;"};

    private static Random r;

    private static int number() {
        return r.nextInt(4) > 0 ? EDGES[r.nextInt(EDGES.length)] : r.nextInt(12);
    }

    private static String text() {
        StringBuilder b = new StringBuilder(r.nextInt(3) == 0 ? BITS[0] : GOOD[r.nextInt(GOOD.length)]);
        int more = r.nextInt(3) == 0 ? r.nextInt(300) : r.nextInt(4);
        for (int k = 0; k < more; k++) {
            String bit = BITS[r.nextInt(BITS.length)];
            b.insert(r.nextInt(3) == 0 ? r.nextInt(b.length()) : b.length(), bit);
        }
        for (int k = r.nextInt(3); k > 0 && b.length() > 0 && r.nextInt(3) == 0; k--) {
            b.deleteCharAt(r.nextInt(b.length()));
        }
        return b.toString();
    }

    private static void feed(PathStream x, String text) {
        int length = Math.min(text.length(), 1600);
        for (int k = 0; k < length; k += 20) {
            int[] v = new int[5];
            for (int j = 0; j < 20; j++) {
                v[j / 4] = v[j / 4] << 8 | (k + j < length ? text.charAt(k + j) & 255 : 0);
            }
            x.feed(v[0], v[1], v[2], v[3], v[4]);
        }
        x.end(length);
    }

    private static void call(PathStream x) {
        int a = number();
        int b = number();
        switch (r.nextInt(31)) {
            case 0: x.feed(a, b, a, b, a); break;
            case 1: x.end(a); break;
            case 2: x.stream(); break;
            case 3: x.fault(a); break;
            case 4: x.has(a); break;
            case 5: x.letter(a, b); break;
            case 6: x.path(a, b); break;
            case 7: x.segment(a, b); break;
            case 8: x.octet(a); break;
            case 9: x.refusals(a); break;
            case 10: x.later(a, b); break;
            case 11: x.finish(); break;
            case 12: x.without(a); break;
            case 13: x.alone(a); break;
            case 14: x.window(a); break;
            case 15: x.odds(a); break;
            case 16: x.meet(); break;
            case 17: x.delays(a); break;
            case 18: x.tells(a, b); break;
            case 19: x.chance(a); break;
            case 20: x.join(a, r.nextBoolean() ? 17 : b); break;
            case 21: if (r.nextInt(5) == 0) { x.kill(a); } break;
            case 22: x.spoil(a); break;
            case 23: x.undo(); break;
            case 24: x.seed(a); break;
            case 25: x.kept(a, b); break;
            case 26: x.status(a); break;
            case 27: feed(x, "\u0003\u0001\u0014\u0005\u0000\u0000"); x.meet(); break;
            case 28: feed(x, text()); x.stream(); break;
            default: x.ticks(1 + r.nextInt(30)); break;
        }
    }

    // A text that is taken has no fault, one that is not has a place inside it or at its end.
    private static boolean isSound(PathStream x, String text) {
        x.end(0);
        feed(x, text);
        int length = Math.min(text.length(), 1600);
        int count = x.stream();
        int place = x.fault(1);
        return count > 0 ? x.fault(0) == 0 && place == -1 && count <= 40
            : count == -1 && x.fault(0) >= 1 && x.fault(0) <= 6 && place >= 0 && place <= length;
    }

    public static void main(String[] args) {
        int runs = args.length > 0 ? Integer.parseInt(args[0]) : 400;
        int wrong = 0;
        for (int run = 1; run <= runs; run++) {
            r = new Random(run);
            PathStream x = new PathStream();
            for (int k = 0; k < 20; k++) {
                String text = text();
                if (!isSound(x, text)) {
                    wrong++;
                    System.out.println("run " + run + ": not sound: " + text);
                }
            }
            feed(x, GOOD[r.nextInt(GOOD.length)]);
            x.stream();
            for (int k = 0; k < 300; k++) {
                call(x);
            }
        }
        System.out.println(wrong == 0 ? "no call failed" : wrong + " texts were answered wrongly");
        if (wrong != 0) {
            System.exit(1);
        }
    }
}
