import java.nio.charset.StandardCharsets;

/** For each promise what the document asks, worked out by hand: ordinary inputs, edges, wrong inputs. */
public final class PromiseRuns {
    private static final int NONE = PathStream.NONE;
    private static final String ONE = "stream 10 unit 5 window 10 key 0;path a delay 1;";
    private static final String TWO = ONE + "path b delay 2;join b at 0 token 17;";

    private static int wrong = 0;
    private static String promise = "";
    private static PathStream x;

    private static void due(String call, int got, int want) {
        if (got != want) {
            wrong++;
            System.out.println(promise + ": " + call + " answered " + got + ", due is " + want);
        }
    }

    private static void due(String call, boolean got, boolean want) {
        due(call, got ? 1 : 0, want ? 1 : 0);
    }

    private static void tape(byte[] bytes) {
        for (int k = 0; k < bytes.length; k += 20) {
            int[] v = new int[5];
            for (int j = 0; j < 20; j++) {
                v[j / 4] = v[j / 4] << 8 | (k + j < bytes.length ? bytes[k + j] & 255 : 0);
            }
            x.feed(v[0], v[1], v[2], v[3], v[4]);
        }
        x.end(bytes.length);
    }

    private static void tape(String text) {
        tape(text.getBytes(StandardCharsets.ISO_8859_1));
    }

    private static int tell(String text) {
        tape(text);
        return x.stream();
    }

    private static void begin(String text) {
        x = new PathStream();
        tell(text);
        due("fault of " + text, x.fault(0), 0);
    }

    private static int meet(int... bytes) {
        byte[] b = new byte[bytes.length];
        for (int k = 0; k < b.length; k++) {
            b[k] = (byte) bytes[k];
        }
        tape(b);
        return x.meet();
    }

    public static void main(String[] args) {
        newObject();
        feedAndEnd();
        streams();
        faults();
        faultsOfFormulas();
        formulas();
        numbersOfThings();
        lettersAndPaths();
        segmentsAndOctets();
        refusals();
        reading();
        failing();
        penalties();
        ahead();
        windows();
        odds();
        slowness();
        tickActs();
        draws();
        pathActs();
        undoing();
        keptRing();
        lastTick();
        status();
        System.out.println(wrong == 0 ? "all answers are as due" : wrong + " answers are not as due");
        if (wrong != 0) {
            System.exit(1);
        }
    }

    private static void newObject() {
        promise = "1 a new object";
        x = new PathStream();
        for (int k = 0; k < 16; k++) {
            due("has " + k, x.has(k), 0);
        }
        due("has 16", x.has(16), 1);
        due("has -1", x.has(-1), NONE);
        due("has 17", x.has(17), NONE);
        due("path", x.path(0, 0), NONE);
        due("letter", x.letter(0, 0), NONE);
        due("segment", x.segment(0, 0), NONE);
        due("octet", x.octet(0), NONE);
        due("kept", x.kept(0, 0), NONE);
        due("later", x.later(0, 0), NONE);
        due("finish", x.finish(), NONE);
        due("without", x.without(0), NONE);
        due("alone", x.alone(0), NONE);
        due("window", x.window(10), NONE);
        due("odds", x.odds(0), NONE);
        due("delays", x.delays(0), NONE);
        due("tells", x.tells(0, 0), NONE);
        due("undo", x.undo(), false);
        for (int k = 0; k < 4; k++) {
            due("refusals", x.refusals(k), 0);
        }
        due("meet", meet(0, 0, 0), NONE);
    }

    private static void feedAndEnd() {
        promise = "2, 3 feed, end";
        x = new PathStream();
        due("end 0", x.end(0), true);
        due("end 1", x.end(1), false);
        due("end -1", x.end(-1), false);
        for (int k = 1; k <= 80; k++) {
            due("feed", x.feed(0x20202020, 0x20202020, 0x20202020, 0x20202020, 0x20202020), 20 * k);
        }
        due("feed", x.feed(0, 0, 0, 0, 0), NONE);
        due("status 0", x.status(0), 3);
        due("end 1601", x.end(1601), false);
        due("end 1600", x.end(1600), true);
        due("end 1581", x.end(1581), true);
        due("feed", x.feed(0, 0, 0, 0, 0), NONE);
        due("end 1580", x.end(1580), true);
        due("feed", x.feed(0, 0, 0, 0, 0), 1600);
        due("status 0", x.status(0), 5);
        x.end(7);
        due("stream of blanks", x.stream(), NONE);
        due("its place", x.fault(1), 7);
        due("the tape went", x.end(1), false);
        // "stre" "am 1" ... the highest byte of each number first
        x.feed(0x73747265, 0x616d2031, 0x20756e69, 0x74203120, 0x77696e64);
        x.feed(0x6f772031, 0x30206b65, 0x7920303b, 0x20202020, 0x20202020);
        due("stream", x.stream(), 1);
        due("bytes", x.has(0), 1);
    }

    private static void streams() {
        promise = "4 stream";
        x = new PathStream();
        due("a stream without paths", tell("stream 10 unit 5 window 10 key 0;"), 1);
        due("paths", x.has(1), 0);
        due("ticks", x.ticks(3), 0);
        due("finish", x.finish(), NONE);
        due("odds", x.odds(0), NONE);
        x.seed(5);
        due("stream", tell(TWO), 4);
        due("tick", x.has(3), 0);
        due("acts", x.has(15), 0);
        due("the seed stays", x.has(16), 5);
        x.ticks(4);
        x.join(1, 1);
        meet(0, 0, 0);
        due("rows", x.has(14), 1);
        due("a fault", tell("stream 10 unit"), NONE);
        due("all stays: bytes", x.has(0), 10);
        due("all stays: tick", x.has(3), 4);
        due("all stays: acts", x.has(15), 1);
        due("all stays: rows", x.has(14), 1);
        due("all stays: finish", x.finish(), 0);
        due("status 1", x.status(1), 1);
        x.kill(1);
        due("kept", x.has(13), 1);
        due("stream", tell(ONE), 2);
        due("fault", x.fault(0), 0);
        due("place", x.fault(1), NONE);
        for (int k : new int[] {3, 4, 5, 7, 8, 9, 10, 11, 12, 13, 14, 15}) {
            due("has " + k, x.has(k), 0);
        }
        due("edge", x.has(6), 10);
        due("undo", x.undo(), false);
        begin(ONE + "path b delay 1;join b at 0 token 1;drops from=5;");
        x.ticks(3);
        x.kill(0);
        due("taken", x.octet(0), 2);
        due("again", x.has(11), 1);
        due("joins", x.refusals(0), 1);
        tell(TWO);
        due("taken", x.octet(0), 0);
        due("again", x.has(11), 0);
        due("joins", x.refusals(0), 0);
        due("dead", x.path(0, 2), 0);
        due("bytes", x.later(3, 4), 10);
        due("statements", tell("stream 10 unit 5 window 10 key 0;" + "loss 3;".repeat(39)), 40);
    }

    private static void fault(String text, int kind, int place) {
        x = new PathStream();
        due("stream of '" + text + "'", tell(text), NONE);
        due("fault of '" + text + "'", x.fault(0), kind);
        due("place in '" + text + "'", x.fault(1), place);
        due("another what", x.fault(2), NONE);
        due("another what", x.fault(-1), NONE);
    }

    private static void behind(String text, String more, int kind, int place) {
        fault(text + more, kind, text.length() + place);
    }

    private static void faults() {
        promise = "5 fault";
        x = new PathStream();
        due("ahead of any", x.fault(0), 0);
        due("ahead of any", x.fault(1), NONE);
        String s = "stream 10 unit 5 window 10 key 0;";
        fault("", 1, 0);
        fault(" \n ", 1, 3);
        fault(";", 1, 0);
        fault("\t", 1, 0);
        fault("loss 1;", 1, 0);
        fault("Stream", 1, 0);
        fault("strea 5", 1, 0);
        fault("streams 5", 1, 6);
        fault("abcdefghij", 1, 6);
        fault("12345", 1, 4);
        fault("1234", 1, 0);
        fault("stream5", 1, 6);
        fault("stream0", 1, 6);
        fault("stream 5unit", 1, 8);
        fault("stream 5un", 1, 8);
        fault("stream 5 un", 1, 9);
        fault("stream unit", 1, 7);
        fault("stream 00010", 1, 11);
        fault("stream 99999", 1, 11);
        fault("stream 0010 unit 5 window 10 key 0", 1, 34);
        fault("stream 0000", 4, 7);
        fault("stream 1 unit 1 window 100", 4, 23);
        fault("stream 1 unit 1 window 10 key 0  ", 1, 33);
        fault("stream 1 unit 1 window 10 key 0 @", 1, 32);
        fault("stream 1, unit", 1, 8);
        behind(s, "stream 10 unit 5 window 10 key 0;", 1, 0);
        behind(s, ";", 1, 0);
        behind(s, "path", 1, 4);
        behind(s, "path 5", 1, 5);
        behind(s, "path 55555", 1, 9);
        behind(s, "path abcdefg delay 1;", 1, 11);
        behind(s, "path delay delay 1;", 1, 5);
        behind(s, "path a delay 10;", 4, 13);
        behind(s, "path a delay 0;", 4, 13);
        behind(s, "path a1", 1, 6);
        behind(s, "path a delay1", 1, 12);
        behind(s, "path a delay 1 path", 1, 15);
        behind(ONE, "path a", 2, 5);
        behind(ONE, "path a1", 2, 5);
        behind(ONE, "path b", 1, 6);
        behind(ONE, "path b delay 1;path c delay 1;path d delay 1;path e delay 1;", 6, 45);
        behind(ONE, "path b delay 1;path c delay 1;path d delay 1;path", 6, 45);
        behind(ONE, "join a", 3, 5);
        behind(ONE, "join b", 3, 5);
        behind(ONE, "join abcdefg", 1, 11);
        behind(ONE, "join tick at 1", 1, 5);
        behind(ONE, "path b delay 1;join b at 100", 4, 25);
        behind(ONE, "path b delay 1;join b at 99 token 1000", 4, 34);
        behind(ONE, "path b delay 1;join b at 99 token 999;join b", 3, 43);
        behind(ONE, "join b at 1 token 1;path b delay 1;", 3, 5);
        behind(ONE, "loss 101;", 4, 5);
        behind(ONE, "loss 100", 1, 8);
        behind(ONE, "drops all;drops all;", 6, 10);
        behind(ONE, "picks 1;picks 1;", 6, 8);
        behind(ONE, "reads 1;loss 1;reads", 6, 15);
        behind(ONE, "waits 1;\nwaits 1;", 6, 9);
        String forty = s + "loss 3;".repeat(39);
        behind(forty, "loss 3;", 6, 0);
        behind(forty, " stream 5", 6, 1);
        behind(forty, "abcdefgh", 6, 0);
        behind(forty.substring(0, forty.length() - 1), "", 1, 0);
    }

    private static void faultsOfFormulas() {
        promise = "5 fault in a formula";
        behind(ONE, "drops", 1, 5);
        behind(ONE, "drops 5;", 1, 7);
        behind(ONE, "drops 5<;", 1, 8);
        behind(ONE, "drops 5<6<7;", 1, 9);
        behind(ONE, "drops [5<6;", 1, 10);
        behind(ONE, "drops (5<6);", 1, 8);
        behind(ONE, "drops all and;", 1, 13);
        behind(ONE, "drops all all;", 1, 10);
        behind(ONE, "drops 5<6and all;", 1, 9);
        behind(ONE, "drops from<=5;", 1, 11);
        behind(ONE, "picks -1;", 1, 6);
        behind(ONE, "picks 1+;", 1, 8);
        behind(ONE, "picks 12345;", 1, 10);
        behind(ONE, "picks min(1);", 1, 11);
        behind(ONE, "picks min 1,2);", 1, 10);
        behind(ONE, "picks max(1,2,3);", 1, 13);
        behind(ONE, "picks min;", 1, 9);
        behind(ONE, "picks if;", 1, 8);
        behind(ONE, "picks if(1,2,3);", 1, 10);
        behind(ONE, "picks if(all,2);", 1, 14);
        behind(ONE, "picks a;", 1, 6);
        behind(ONE, "picks (1;", 1, 8);
        behind(ONE, "picks 1);", 1, 7);
        String[] kinds = {"drops ", "picks ", "reads ", "waits "};
        String[] facts = {"tick", "path", "number", "from", "delay", "cwnd", "flying", "fails", "ready", "ahead", "key", "all"};
        // for each fact: in which of drops, picks, reads, waits it can stand
        String[] can = {"1111", "1100", "1000", "1000", "0101", "0101", "0100", "0001", "0010", "0010", "0000", "0000"};
        for (int k = 0; k < 4; k++) {
            for (int f = 0; f < facts.length; f++) {
                String text = kinds[k] + "1+" + facts[f] + (k == 0 ? ">1;" : ";");
                if (can[f].charAt(k) == '1') {
                    begin(ONE + text);
                } else {
                    behind(ONE, text, 1, 8);
                }
            }
        }
        begin(ONE + "picks (((((((1)))))));");
        behind(ONE, "picks ((((((((1))))))));", 5, 13);
        behind(ONE, "picks min((((((((1", 5, 16);
        begin(ONE + "picks (((((((1)))))))+(((((((1)))))));");
        begin(ONE + "drops not not not not not not not all and not not not not not not not all;");
        behind(ONE, "drops not not not not not not not not all;", 5, 34);
        behind(ONE, "drops not not [not [not [not [all", 5, 25);
        begin(ONE + "drops not not [not [not [all]]];");
        behind(ONE, "drops not not not not not not not (1)<1;", 5, 34);
        behind(ONE, "picks 1 ((((((((", 1, 8);
    }

    // waits is told by path(.., 8), so it tells what a SUM is.
    private static void sum(String text, int want) {
        begin(ONE + "waits " + text + ";");
        due("waits " + text, x.path(0, 8), want);
    }

    private static void formulas() {
        promise = "Terms I, 8 path";
        sum("7-10/4*2", 3);
        sum("20-5-3", 12);
        sum("100/7/2", 7);
        sum("0-7/2+50", 47);
        sum("(0-7)/2+50", 46);
        sum("(0-7)%3+50", 52);
        sum("7%(0-3)+50", 48);
        sum("7/(0-3)+50", 47);
        sum("5/0+9", 9);
        sum("5%0+9", 9);
        sum("9999*9999/9999-50", 50);
        sum("0-9999*9999/9999+150", 50);
        sum("0*5-9999*9999-9999*9999+9999*100+60+100", 60);
        sum("min(3,max(7,5))+0002", 5);
        sum("if(tick=0,5,6)", 5);
        sum("if(not tick=0,5,6)", 6);
        sum("if(tick=0 or tick=1 and tick=2,5,6)", 5);
        sum("if([tick=0 or tick=1]and tick=2,5,6)", 6);
        sum("if(not tick=1 and tick=2,5,6)", 6);
        sum("if(not[tick=1 and tick=2],5,6)", 5);
        sum("if(all,min(9,8),1/0)", 8);
        sum("if(3<3 or 3>3,5,6)", 6);
        sum("cwnd/100+delay+fails+tick", 21);
        sum("0", 1);
        sum("0-5", 1);
        sum("99", 99);
        sum("100", 99);
        begin(ONE);
        due("without waits", x.path(0, 8), 6);
    }

    private static void numbersOfThings() {
        promise = "6 has";
        begin(TWO);
        x.ticks(1);
        int[] first = {10, 2, 2, 1, 10, 0, 10, 0, 0, 2, 0, 0, 10, 0, 0, 1, 1};
        for (int k = 0; k < 17; k++) {
            due("has " + k, x.has(k), first[k]);
        }
        x.ticks(1);
        int[] second = {10, 2, 2, 2, 10, 0, 10, 10, 10, 2, 2, 0, 10, 0, 0, 2, 1};
        for (int k = 0; k < 17; k++) {
            due("has " + k, x.has(k), second[k]);
        }
        x.ticks(1);
        int[] third = {10, 2, 2, 3, 10, 10, 20, 10, 10, 0, 0, 0, 10, 0, 0, 3, 1};
        for (int k = 0; k < 17; k++) {
            due("has " + k, x.has(k), third[k]);
        }
        due("has 17", x.has(17), NONE);
        due("has -1", x.has(-1), NONE);
    }

    private static void lettersAndPaths() {
        promise = "7, 8 letter, path";
        begin(ONE + "path azmnbc delay 9;");
        int[] letters = {1, 26, 13, 14, 2, 3};
        for (int k = 0; k < 6; k++) {
            due("letter", x.letter(1, k), letters[k]);
            due("letter", x.letter(0, k), k == 0 ? 1 : 0);
        }
        due("letter", x.letter(0, 6), NONE);
        due("letter", x.letter(0, -1), NONE);
        due("letter", x.letter(2, 0), NONE);
        due("letter", x.letter(-1, 0), NONE);
        int[] never = {9, 0, 0, 0, 0, 0, 0, 0, 38};
        for (int k = 0; k < 9; k++) {
            due("path 1 " + k, x.path(1, k), never[k]);
        }
        x.spoil(0);
        int[] spoiled = {1, 1, 0, 2000, 0, 0, 0, 1, 6};
        for (int k = 0; k < 9; k++) {
            due("path 0 " + k, x.path(0, k), spoiled[k]);
        }
        due("path", x.path(0, 9), NONE);
        due("path", x.path(0, -1), NONE);
        due("path", x.path(2, 0), NONE);
        due("path", x.path(-1, 0), NONE);
        begin(ONE);
        x.ticks(1);
        due("flying", x.path(0, 5), 2);
        x.ticks(2);
        // 2000 + 1000000 / 2000, then + 1000000 / 2500
        due("cwnd", x.path(0, 3), 2900);
        due("flying", x.path(0, 5), 0);
        due("sent", x.path(0, 6), 2);
        x.kill(0);
        due("joined", x.path(0, 1), 1);
        due("dead", x.path(0, 2), 1);
        due("cwnd of a dead one", x.path(0, 3), 2900);
    }

    private static void segmentsAndOctets() {
        promise = "9, 10 segment, octet";
        begin("stream 12 unit 5 window 12 key 200;path a delay 1;path b delay 2;join b at 0 token 217;");
        x.ticks(1);
        // byte k is (k k + 7 k + 200) mod 251: 200 208 218 230 244 | 9 27 47 69 93 | 119 147
        int[][] due = {{0, 0, 0, 5, 0, 1100 % 251}, {0, 1, 5, 5, 0, 245}, {1, 0, 10, 2, 0, 266 % 251}};
        for (int k = 0; k < 3; k++) {
            for (int what = 0; what < 6; what++) {
                due("segment " + k + " " + what, x.segment(k, what), due[k][what]);
            }
        }
        due("segment", x.segment(3, 0), NONE);
        due("segment", x.segment(-1, 0), NONE);
        due("segment", x.segment(0, 6), NONE);
        due("segment", x.segment(0, -1), NONE);
        due("octet", x.octet(0), 0);
        due("octet", x.octet(11), 0);
        due("octet", x.octet(12), NONE);
        due("octet", x.octet(-1), NONE);
        x.ticks(1);
        due("octet", x.octet(9), 2);
        due("octet", x.octet(10), 0);
        begin(ONE + "drops from=0;");
        x.ticks(2);
        due("octet", x.octet(4), 0);
        due("octet", x.octet(5), 1);
        due("octet", x.octet(9), 1);
        due("taken", x.has(7), 5);
        due("read", x.has(8), 0);
    }

    private static void refusals() {
        promise = "11 refusals";
        begin(TWO);
        x.spoil(0);
        x.ticks(2);
        // the WRONG one is refused, its path dead at TICK 1, both pieces go at once on the other one
        due("wrong", x.refusals(1), 1);
        due("dead", x.path(0, 2), 1);
        due("kept", x.kept(0, 0), 2);
        due("kept", x.kept(0, 1), 0);
        due("kept", x.kept(0, 2), 1);
        due("flying", x.has(9), 2);
        due("first", x.segment(0, 2), 0);
        due("second", x.segment(1, 2), 5);
        due("answers", x.has(10), 1);
        due("finish", x.finish(), 4);
        x.ticks(4);
        due("taken already", x.refusals(3), 1);
        due("no room", x.refusals(2), 0);
        due("joins", x.refusals(0), 0);
        due("refusals", x.refusals(4), NONE);
        due("refusals", x.refusals(-1), NONE);
        due("needed", x.has(5), 10);
        begin(ONE + "path b delay 2;join b at 2 token 18;");
        x.ticks(2);
        due("joins", x.refusals(0), 0);
        x.ticks(1);
        due("joins", x.refusals(0), 1);
        due("join", x.join(1, 16), false);
        due("joins", x.refusals(0), 2);
        due("join", x.join(1, 17), true);
        due("joins", x.refusals(0), 2);
        begin(ONE + "path b delay 2;join b at 1 token 17;");
        x.join(1, 17);
        x.ticks(2);
        due("a told join of one that is joined", x.refusals(0), 1);
    }

    private static void reading() {
        promise = "Terms II: reads";
        begin(ONE + "reads 3;");
        x.ticks(2);
        due("read", x.has(8), 3);
        due("answers", x.has(10), 2);
        x.ticks(1);
        due("needed", x.has(5), 10);
        due("edge", x.has(6), 13);
        due("read", x.has(8), 6);
        due("an answer for no segment", x.has(10), 1);
        x.ticks(1);
        due("edge", x.has(6), 16);
        x.ticks(1);
        due("read", x.has(8), 10);
        due("octet", x.octet(9), 2);
        x.ticks(1);
        due("edge", x.has(6), 20);
        due("answers", x.has(10), 0);
        begin(ONE + "reads 0-3;");
        x.ticks(9);
        due("read", x.has(8), 0);
        due("finished all the same", x.has(5), 10);
        // the second piece comes alone: nothing is ready, five bytes are ahead
        begin(ONE + "drops from=0 and tick=0;reads if(ahead=5,9,if(ready=10,4,0));");
        x.ticks(7);
        due("read", x.has(8), 0);
        x.ticks(1);
        due("read", x.has(8), 4);
        due("taken", x.has(7), 10);
    }

    private static void failing() {
        promise = "Terms II: fails";
        begin(ONE + "drops all;");
        due("sent", x.ticks(6), 2);
        due("kept", x.has(13), 0);
        due("sent", x.ticks(1), 0);
        due("failed", x.path(0, 4), 1);
        due("cwnd", x.path(0, 3), 1000);
        due("flying", x.path(0, 5), 1);
        due("again", x.has(11), 1);
        due("sent", x.ticks(1), 1);
        due("failed", x.path(0, 4), 2);
        due("flying", x.segment(0, 2), 0);
        due("its number", x.segment(0, 1), 2);
        due("again", x.has(11), 1);
        due("sent", x.ticks(6), 0);
        due("dead", x.path(0, 2), 1);
        due("failed", x.path(0, 4), 3);
        due("again", x.has(11), 2);
        int[][] kept = {{0, 0, 0}, {0, 0, 5}, {0, 0, 0}, {2, 0, 13}};
        for (int k = 0; k < 4; k++) {
            for (int what = 0; what < 3; what++) {
                due("kept " + k + " " + what, x.kept(k, what), kept[k][what]);
            }
        }
        due("kept", x.has(13), 4);
        due("bytes", x.has(12), 15);
        due("finish", x.finish(), NONE);
        // an answer that comes behind the failure: what failed is sent again, but goes on its way
        begin("stream 5 unit 5 window 10 key 0;path a delay 3;waits 2;");
        due("sent", x.ticks(3), 2);
        due("failed", x.path(0, 4), 1);
        x.ticks(1);
        due("taken", x.has(7), 5);
        due("cwnd", x.path(0, 3), 1000);
        x.ticks(3);
        due("needed", x.has(5), 5);
        due("refused", x.refusals(3), 1);
    }

    private static void penalties() {
        promise = "Terms II: a penalty";
        begin("stream 30 unit 10 window 20 key 5;path a delay 9;path b delay 8;join b at 1 token 172;");
        due("sent", x.ticks(1), 2);
        due("kept", x.has(13), 0);
        due("sent", x.ticks(1), 1);
        due("kind", x.kept(0, 0), 1);
        due("path", x.kept(0, 1), 0);
        due("first byte", x.kept(0, 2), 0);
        due("cwnd", x.path(0, 3), 1000);
        due("on the other", x.segment(2, 0), 1);
        due("first byte", x.segment(2, 2), 0);
        due("sent up to", x.has(4), 20);
        // the first one sent in which NEEDED is flies still, so it comes once more, until the other is full
        due("sent", x.ticks(1), 1);
        due("sent", x.ticks(1), 0);
        due("kept", x.has(13), 2);
        due("bytes", x.has(12), 40);
        begin("stream 20 unit 10 window 20 key 5;path a delay 9;path b delay 8;join b at 1 token 172;");
        due("no penalty where all is sent", x.ticks(5), 2);
    }

    private static void ahead() {
        promise = "12 to 15 later, finish, without, alone";
        begin(TWO);
        int[][] due = {{0, 0, 0, 0, 0}, {10, 0, 0, 2, 10}, {10, 0, 10, 2, 10}, {10, 10, 10, 0, 10}};
        for (int n = 0; n < 4; n++) {
            for (int what = 0; what < 5; what++) {
                due("later " + n + " " + what, x.later(n, what), due[n][what]);
            }
        }
        due("later", x.later(200, 1), 10);
        due("later", x.later(201, 1), NONE);
        due("later", x.later(-1, 1), NONE);
        due("later", x.later(0, 5), NONE);
        due("later", x.later(0, -1), NONE);
        due("nothing went by", x.has(3), 0);
        due("finish", x.finish(), 3);
        due("without 0", x.without(0), 5);
        due("without 1", x.without(1), 3);
        due("without 2", x.without(2), NONE);
        due("without -1", x.without(-1), NONE);
        due("alone 0", x.alone(0), 3);
        due("alone 1", x.alone(1), 5);
        due("alone 2", x.alone(2), NONE);
        due("alone -1", x.alone(-1), NONE);
        due("nothing is kept", x.has(13), 0);
        x.ticks(1);
        due("finish", x.finish(), 2);
        // all had been sent on path 0: what arrives goes on, so it does no harm
        due("without 0", x.without(0), 2);
        x.ticks(2);
        due("finish", x.finish(), 0);
        begin(ONE + "path b delay 2;join b at 1 token 17;");
        due("one that is not joined can be killed ahead", x.alone(1), 6);
        x.kill(0);
        due("without", x.without(1), NONE);
        begin("stream 200 unit 1 window 10 key 0;path a delay 9;");
        due("finish", x.finish(), NONE);
    }

    private static void windows() {
        promise = "16 window";
        begin(ONE);
        // below 10 the second SEGMENT is refused (2) and yet answered, so it never comes again
        due("window 3", x.window(3), 10);
        due("window 200", x.window(200), 10);
        due("window 2", x.window(2), NONE);
        due("window 0", x.window(0), NONE);
        due("window -1", x.window(-1), NONE);
        due("window 201", x.window(201), NONE);
        x.ticks(3);
        due("finished already", x.window(1), 5);
        begin("stream 40 unit 10 window 10 key 0;path a delay 1;");
        // EDGE stays 10: one SEGMENT, then behind TICK 2 as wide as told
        due("window 9", x.window(9), 10);
        due("window 8", x.window(8), 15);
        due("window 7", x.window(7), 15);
        due("window 6", x.window(6), 30);
        due("window 5", x.window(5), 30);
        due("window 4", x.window(4), NONE);
        due("no act", x.has(15), 0);
        due("edge", x.has(6), 10);
        // behind the first answer, at TICK 2, all the rest must go at once: EDGE is 10 + 99 then
        String four = "path a delay 1;path b delay 1;path c delay 1;path d delay 1;"
            + "join b at 0 token 17;join c at 0 token 17;join d at 0 token 17;";
        begin("stream 109 unit 20 window 10 key 0;" + four);
        due("window 5", x.window(5), 99);
        begin("stream 110 unit 20 window 10 key 0;" + four);
        due("window 5", x.window(5), NONE);
    }

    private static void odds() {
        promise = "17 odds";
        begin(ONE + "loss 30;loss 40;");
        due("odds 0", x.odds(0), 60);
        due("odds 1", x.odds(1), 100);
        due("odds 2", x.odds(2), NONE);
        due("odds -1", x.odds(-1), NONE);
        x.ticks(1);
        due("none would be sent", x.odds(0), NONE);
        due("none would be sent", x.odds(1), NONE);
        begin(ONE + "loss 30;drops from=0;");
        due("dropped", x.odds(0), 0);
        due("rows", x.odds(1), 100);
        begin(ONE + "loss 30;drops from=5;");
        due("the first is not dropped", x.odds(0), 70);
        begin(ONE);
        due("without loss", x.odds(0), 100);
        due("no draw", x.has(16), 1);
    }

    private static void slowness() {
        promise = "18 to 20 meet, delays, tells";
        begin(ONE);
        // with a delay of d: READ is 10 behind d + 1 TICKS, NEEDED behind 2 d + 1
        due("delays", x.delays(0), 1022);
        due("delays", x.delays(1), NONE);
        due("delays", x.delays(-1), NONE);
        due("tells 0", x.tells(0, 0), 5);
        due("tells 1", x.tells(0, 1), 1);
        due("tells 2", x.tells(0, 2), 5);
        due("tells 3", x.tells(0, 3), NONE);
        due("tells -1", x.tells(0, -1), NONE);
        due("tells", x.tells(1, 0), NONE);
        due("meet", meet(3, 1, 10), 1);
        due("delays", x.delays(0), 6);
        due("tells 0", x.tells(0, 0), 2);
        due("tells 1", x.tells(0, 1), 1);
        due("tells 2", x.tells(0, 2), 1);
        due("meet", meet(3, 0, 10), 1);
        due("delays", x.delays(0), 2);
        due("tells 0", x.tells(0, 0), 1);
        due("tells 1", x.tells(0, 1), 0);
        due("tells 2", x.tells(0, 2), 1);
        due("meet", meet(3, 1, 0, 8, 0, 0), 2);
        due("rows", x.has(14), 2);
        due("delays", x.delays(0), 1022 - 2 - 4 - 8);
        due("meet", meet(3, 1, 0, 7, 0, 10), 2);
        due("delays", x.delays(0), 8);
        due("meet", meet(9, 1, 0), 1);
        due("delays", x.delays(0), 512);
        due("tells 2", x.tells(0, 2), 1);
        due("meet", meet(0, 0, 1), 1);
        due("delays", x.delays(0), 0);
        due("tells", x.tells(0, 0), NONE);
        due("tells", x.tells(0, 2), NONE);
        due("meet", meet(60, 1, 200), 1);
        due("delays", x.delays(0), 0);
        due("meet", meet(60, 0, 10), 1);
        due("delays", x.delays(0), 1022);
        int refused = x.status(5);
        due("meet", meet(61, 0, 10), NONE);
        due("meet", meet(60, 2, 10), NONE);
        due("meet", meet(60, 0, 201), NONE);
        due("meet", meet(), NONE);
        due("meet", meet(1), NONE);
        due("meet", meet(1, 0, 0, 1), NONE);
        due("meet", meet(new int[51]), NONE);
        due("refused", x.status(5), refused + 7);
        due("rows stay", x.has(14), 1);
        due("meet", meet(new int[48]), 16);
        due("no act", x.has(15), 0);
        x.ticks(1);
        due("meet", meet(0, 0, 0), 1);
        // both fly on by a delay of 1; their answers take the new one
        meet(1, 1, 10);
        due("delays", x.delays(0), 1022);
        meet(3, 0, 10);
        due("delays", x.delays(0), 6);
        x.undo();
        due("undo leaves what was met", x.has(14), 1);
    }

    private static void tickActs() {
        promise = "21 ticks";
        x = new PathStream();
        due("ticks", x.ticks(1), NONE);
        begin(TWO);
        due("ticks", x.ticks(0), NONE);
        due("ticks", x.ticks(-1), NONE);
        due("ticks", x.ticks(101), NONE);
        due("status 2", x.status(2), 3);
        due("ticks", x.ticks(100), 2);
        due("tick", x.has(3), 100);
        due("acts", x.has(15), 1);
        due("no draws", x.has(16), 1);
    }

    private static void draws() {
        promise = "22, 27 chance, seed";
        x = new PathStream();
        due("chance", x.chance(1), NONE);
        begin(ONE + "loss 50;");
        // the seeds behind 1 are 1103527590, 377401575: 18 and 99 of 100
        due("chance", x.chance(1), 1);
        due("the seed", x.has(16), 377401575);
        due("flying", x.has(9), 2);
        due("acts", x.has(15), 1);
        x.ticks(1);
        due("octet", x.octet(0), 0);
        due("octet", x.octet(5), 1);
        due("chance", x.chance(0), NONE);
        due("chance", x.chance(101), NONE);
        due("status 2", x.status(2), 2);
        due("seed", x.seed(-1), false);
        due("seed", x.seed(Integer.MIN_VALUE), false);
        due("the seed", x.has(16), 377401575);
        due("status 5", x.status(5), 2);
        due("seed", x.seed(Integer.MAX_VALUE), true);
        due("the seed", x.has(16), Integer.MAX_VALUE);
        due("seed", x.seed(0), true);
        // 12345 / 64 is 192, so 92 of 100
        begin(ONE + "loss 93;");
        x.seed(0);
        due("chance", x.chance(1), 2);
        begin(ONE + "loss 92;drops all;");
        x.seed(0);
        due("not by the draw", x.chance(1), x.has(16) / 64 % 100 < 92 ? 1 : 0);
        begin(ONE);
        due("a draw without loss, too", x.chance(2), 0);
        due("the seed", x.has(16), 377401575);
        due("undo", x.undo(), true);
        due("but the seed", x.has(16), 377401575);
        due("tick", x.has(3), 0);
    }

    private static void pathActs() {
        promise = "23 to 25 join, kill, spoil";
        begin(ONE + "path b delay 2;");
        due("join 0", x.join(0, 17), false);
        due("join 2", x.join(2, 17), false);
        due("join -1", x.join(-1, 17), false);
        due("token", x.join(1, -1), false);
        due("token", x.join(1, 1000), false);
        due("status 3", x.status(3), 5);
        due("acts", x.has(15), 0);
        due("token", x.join(1, 999), false);
        due("status 3", x.status(3), 5);
        due("an act", x.has(15), 1);
        due("kill", x.kill(1), false);
        due("spoil", x.spoil(1), false);
        due("status 3", x.status(3), 7);
        due("join", x.join(1, 17), true);
        due("cwnd", x.path(1, 3), 2000);
        due("joined", x.has(2), 2);
        due("join", x.join(1, 17), false);
        due("spoil", x.spoil(1), true);
        due("spoil", x.spoil(1), false);
        due("whether", x.path(1, 7), 1);
        due("spoil", x.spoil(2), false);
        due("spoil", x.spoil(-1), false);
        due("kill", x.kill(2), false);
        due("kill", x.kill(-1), false);
        due("status 3", x.status(3), 13);
        x.ticks(1);
        due("kill", x.kill(0), true);
        due("again", x.has(11), 2);
        due("flying", x.has(9), 0);
        due("kept", x.kept(0, 0), 2);
        due("tick", x.kept(0, 2), 1);
        due("kill", x.kill(0), false);
        due("spoil", x.spoil(0), false);
        due("join", x.join(0, 17), false);
        due("sent", x.ticks(1), 2);
        due("the next one is wrong", x.path(1, 7), 0);
        x.ticks(2);
        due("wrong", x.refusals(1), 1);
        due("dead", x.path(1, 2), 1);
        due("needed", x.later(5, 1), 10);
        // 31 * 193 + 17 is 6000, so the token is 0
        begin("stream 10 unit 5 window 10 key 193;path a delay 1;path b delay 2;");
        due("token", x.join(1, 1), false);
        due("token 0", x.join(1, 0), true);
    }

    private static void undoing() {
        promise = "26 undo";
        begin(TWO);
        due("undo", x.undo(), false);
        due("status 4", x.status(4), 1);
        x.spoil(0);
        x.ticks(2);
        x.kill(1);
        due("acts", x.has(15), 3);
        due("undo", x.undo(), true);
        due("dead", x.path(1, 2), 0);
        due("kept", x.has(13), 1);
        due("undo", x.undo(), true);
        due("tick", x.has(3), 0);
        due("kept", x.has(13), 0);
        due("refused", x.refusals(1), 0);
        due("octet", x.octet(5), 0);
        due("spoiled", x.path(0, 7), 1);
        due("undo", x.undo(), true);
        due("spoiled", x.path(0, 7), 0);
        due("undo", x.undo(), false);
        due("status 4", x.status(4), 2);
        for (int k = 0; k < 25; k++) {
            x.ticks(1);
        }
        due("acts", x.has(15), 20);
        for (int k = 0; k < 20; k++) {
            due("undo", x.undo(), true);
        }
        due("tick", x.has(3), 5);
        due("undo", x.undo(), false);
        begin(ONE + "path b delay 2;");
        x.join(1, 5);
        due("refused", x.refusals(0), 1);
        x.undo();
        due("refused", x.refusals(0), 0);
    }

    private static void keptRing() {
        promise = "28 kept";
        // a SEGMENT fails in each TICK, its answer comes ahead of the third failure
        begin("stream 200 unit 1 window 99 key 0;path a delay 1;waits 1;");
        x.ticks(100);
        due("kept", x.has(13), 40);
        due("kept", x.kept(40, 0), NONE);
        due("kept", x.kept(-1, 0), NONE);
        due("kept", x.kept(0, 3), NONE);
        due("kept", x.kept(0, -1), NONE);
        int last = x.kept(39, 2);
        int first = x.kept(0, 2);
        due("the oldest is first", first < last, true);
        x.kill(0);
        due("kept", x.has(13), 40);
        due("the last", x.kept(39, 0), 2);
        due("its tick", x.kept(39, 2), 100);
        due("the one ahead", x.kept(38, 2), last);
        x.undo();
        due("kept", x.has(13), 40);
        due("the oldest is back", x.kept(0, 0), 0);
        due("the oldest is back", x.kept(0, 2), first);
        due("the last", x.kept(39, 2), last);
    }

    private static void lastTick() {
        promise = "TICK 999";
        begin(ONE + "loss 10;path b delay 1;");
        for (int k = 0; k < 9; k++) {
            x.ticks(100);
        }
        due("ticks", x.ticks(100), NONE);
        due("chance", x.chance(100), NONE);
        due("later", x.later(100, 0), NONE);
        due("later", x.later(99, 0), 10);
        due("window", x.window(100), NONE);
        due("window", x.window(99), 5);
        meet(60, 0, 10);
        due("delays", x.delays(0), 1022);
        x.ticks(40);
        due("ticks beyond 999 are by none", x.delays(0), 0);
        due("tells", x.tells(0, 0), NONE);
        meet(59, 0, 10);
        due("delays", x.delays(0), 1022);
        due("tells", x.tells(0, 0), 1);
        x.ticks(59);
        due("tick", x.has(3), 999);
        meet(0, 0, 10);
        due("delays", x.delays(0), 1022);
        due("tells", x.tells(0, 0), NONE);
        due("odds", x.odds(1), NONE);
        due("ticks", x.ticks(1), NONE);
        due("finish", x.finish(), 0);
        due("later", x.later(0, 1), 10);
        due("later", x.later(1, 1), NONE);
        begin("stream 10 unit 5 window 10 key 0;path a delay 1;drops all;path b delay 2;");
        for (int k = 0; k < 9; k++) {
            x.ticks(100);
        }
        x.ticks(99);
        due("it could be sent", x.join(1, 17), true);
        due("but beyond 999", x.odds(0), NONE);
        due("finish", x.finish(), NONE);
        lateJoin();
    }

    // With a delay of d, READ is 10 behind d + 1 TICKS, FINISHED behind 2 d + 1.
    private static void lateJoin() {
        begin(ONE + "path b delay 1;");
        x.kill(0);
        for (int k = 0; k < 9; k++) {
            x.ticks(100);
        }
        x.ticks(96);
        x.join(1, 17);
        due("finish", x.finish(), 3);
        due("without", x.without(0), 3);
        due("alone", x.alone(1), 3);
        due("window", x.window(3), 10);
        due("tells 0", x.tells(1, 0), 3);
        due("tells 1", x.tells(1, 1), 1);
        due("tells 2", x.tells(1, 2), 7);
        x.undo();
        x.ticks(1);
        x.join(1, 17);
        due("finish", x.finish(), NONE);
        due("without", x.without(0), NONE);
        due("alone", x.alone(1), NONE);
        due("tells 0", x.tells(1, 0), 2);
        due("tells 1", x.tells(1, 1), 1);
        due("tells 2", x.tells(1, 2), 8);
    }

    private static void status() {
        promise = "29 status";
        x = new PathStream();
        for (int k = 0; k < 6; k++) {
            due("status " + k, x.status(k), 0);
        }
        due("status", x.status(6), NONE);
        due("status", x.status(-1), NONE);
        x.end(5);
        x.stream();
        x.stream();
        x.ticks(1);
        x.chance(1);
        x.ticks(0);
        x.join(0, 0);
        x.kill(0);
        x.spoil(0);
        x.kill(1);
        for (int k = 0; k < 5; k++) {
            x.undo();
        }
        for (int k = 0; k < 5; k++) {
            x.seed(-1);
        }
        x.meet();
        int[] due = {1, 2, 3, 4, 5, 6};
        for (int k = 0; k < 6; k++) {
            due("status " + k, x.status(k), due[k]);
        }
        tell(ONE);
        for (int k = 0; k < 6; k++) {
            due("a stream leaves status " + k, x.status(k), due[k]);
        }
    }
}
