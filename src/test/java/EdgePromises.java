import java.nio.charset.StandardCharsets;

/** The edges that the promises 1 to 29 name, each under its sentence: at it, and on both sides of it. */
public final class EdgePromises extends Edges {
    public static void main(String[] args) {
        promisesOfTheTape();
        promisesOfTheText();
        promisesOfWhatIs();
        promisesAhead();
        promisesOfSlowness();
        promisesOfActs();
        report();
    }

    // ---- promises 1 to 3

    private static void promisesOfTheTape() {
        newObject();
        feed();
        feedBytes();
        end();
    }

    private static void newObject() {
        says("1: no stream, no paths; the seed is 1");
        x = new PathStream();
        same("has", all(), new int[16]);
        due("has 16", x.has(16), 1);
        due("path", x.path(0, 0), NONE);
        due("fault 0", x.fault(0), 0);
        due("fault 1", x.fault(1), NONE);
        for (int k = 0; k < 6; k++) {
            due("status " + k, x.status(k), 0);
        }
        due("an empty tape", x.end(0), true);
        due("an empty tape", x.end(1), false);
    }

    private static void feed() {
        says("2: NONE, refused (0), if there would be more than 1600");
        x = new PathStream();
        for (int k = 1; k <= 80; k++) {
            due("feed", x.feed(1, 2, 3, 4, 5), 20 * k);
        }
        due("feed at 1600", x.feed(1, 2, 3, 4, 5), NONE);
        due("refused", x.status(0), 1);
        due("nothing came", x.end(1601), false);
        due("all is there", x.end(1600), true);
        x.end(1599);
        due("feed at 1599", x.feed(1, 2, 3, 4, 5), NONE);
        x.end(1581);
        due("feed at 1581", x.feed(1, 2, 3, 4, 5), NONE);
        due("nothing came", x.end(1582), false);
        x.end(1580);
        due("feed at 1580", x.feed(1, 2, 3, 4, 5), 1600);
        x.end(1579);
        due("feed at 1579", x.feed(1, 2, 3, 4, 5), 1599);
        due("refused", x.status(0), 5);
        says("2: a tape of 1600 bytes is read to its last one");
        good(HEAD + " ".repeat(1600 - HEAD.length()), 1);
        bad(HEAD + " ".repeat(1599 - HEAD.length()) + "@", 1, 1599);
    }

    private static void feedBytes() {
        says("2: twenty bytes come behind those on the tape, of each number the highest first");
        x = new PathStream();
        // "stre" "am 1" " uni" "t 1 " "wind" | "ow 1" "0 ke" "y 0;"
        x.feed(0x73747265, 0x616d2031, 0x20756e69, 0x74203120, 0x77696e64);
        x.feed(0x6f772031, 0x30206b65, 0x7920303b, 0x20202020, 0x20202020);
        due("stream", x.stream(), 1);
        says("2: a byte is 0 to 255");
        // 160 and 138 are blanks in their low seven bits alone
        bad("\u00a0" + HEAD, 1, 0);
        bad(HEAD + "\u008a", 1, 33);
        x = new PathStream();
        due("feed", x.feed(-1, -1, -1, -1, -1), 20);
        due("stream", x.stream(), NONE);
        due("place", x.fault(1), 0);
    }

    private static void end() {
        says("3: false, refused (0), if it has not so many, or n is below 0");
        x = new PathStream();
        due("end 0", x.end(0), true);
        due("end 1", x.end(1), false);
        due("end -1", x.end(-1), false);
        due("refused", x.status(0), 2);
        x.feed(0, 0, 0, 0, 0);
        due("end 21", x.end(21), false);
        due("end high", x.end(HIGH), false);
        due("end low", x.end(LOW), false);
        due("end 20", x.end(20), true);
        due("end 19", x.end(19), true);
        due("end 20", x.end(20), false);
        due("refused", x.status(0), 6);
        due("end 0", x.end(0), true);
        due("refused", x.status(0), 6);
        says("3: the tape has its first n bytes alone");
        x = new PathStream();
        tape((ONE + "@").getBytes(StandardCharsets.ISO_8859_1));
        due("end", x.end(ONE.length()), true);
        due("stream", x.stream(), 2);
        x = new PathStream();
        tape(ONE.getBytes(StandardCharsets.ISO_8859_1));
        x.end(ONE.length() - 1);
        due("stream", x.stream(), NONE);
        due("place", x.fault(1), ONE.length() - 1);
        cut("stream 10 unit 5 window 1^0 key 0;", 4, 24);
        cut("stream 10 unit 5 window 10^0 key 0;", 1, 26);
        cut("stream 10 unit 5 windo^w 10 key 0;", 1, 17);
        cut("stream 10 unit 5 window^s 10 key 0;", 1, 23);
        cut("stream^ 10 unit 5 window 10 key 0;", 1, 6);
        x = new PathStream();
        tell(ONE);
        x.feed(0x3c01c8ff, -1, -1, -1, -1);
        x.end(3);
        due("a row, whatever stood behind it", x.meet(), 1);
    }

    // What stands behind the sign ^ is on the tape no more.
    private static void cut(String marked, int kind, int place) {
        int length = marked.indexOf('^');
        x = new PathStream();
        tape(marked.replace("^", "").getBytes(StandardCharsets.ISO_8859_1));
        x.end(length);
        due("stream of " + marked, x.stream(), NONE);
        due("fault of " + marked, x.fault(0), kind);
        due("place in " + marked, x.fault(1), place);
    }

    // ---- promises 4 and 5

    private static void promisesOfTheText() {
        tapeGoes();
        allStays();
        asAtFirst();
        behindAnother();
        fault();
    }

    private static void tapeGoes() {
        says("4: the tape (it goes)");
        x = new PathStream();
        tell(ONE);
        due("behind a stream", x.end(1), false);
        due("an empty one", x.stream(), NONE);
        due("place", x.fault(1), 0);
        tell(ONE + "@");
        due("behind a fault", x.end(1), false);
        due("feed", x.feed(0, 0, 0, 0, 0), 20);
    }

    private static void allStays() {
        says("4: NONE, refused (1), with a FAULT (all stays)");
        begin("stream 20 unit 5 window 10 key 0;path abc delay 3;path d delay 1;join d at 3 token 17;loss 30;"
            + "drops from=5;picks 0-path;reads 2;waits 7;");
        x.seed(77);
        meet(1, 0, 0, 9, 1, 5);
        x.ticks(9);
        x.spoil(1);
        int[] was = all();
        int odds = x.odds(0);
        int later = x.later(30, 4);
        int finish = x.finish();
        int delays = x.delays(0);
        String[] faults = {"", "@", HEAD + "path z delay 10;", HEAD + "path z delay 9;path z",
            "stream 7 unit 1 window 99 key 999;path q delay 9;join q", "stream 7 unit 1 window 99 key 9;loss 99;drops all;picks 1;reads 9;waits 99;waits 1;"};
        for (int k = 0; k < faults.length; k++) {
            due("stream", tell(faults[k]), NONE);
            due("refused", x.status(1), k + 1);
        }
        same("has", all(), was);
        due("the seed", x.has(16), 77);
        due("a letter", x.letter(0, 2), 3);
        due("delay", x.path(0, 0), 3);
        due("waits", x.path(0, 8), 7);
        due("spoiled", x.path(1, 7), 1);
        due("odds", x.odds(0), odds);
        due("later", x.later(30, 4), later);
        due("finish", x.finish(), finish);
        due("delays", x.delays(0), delays);
        due("undo", x.undo(), true);
        due("spoiled", x.path(1, 7), 0);
        says("4: a fault of the very first text leaves no stream");
        x = new PathStream();
        tell(ONE + "@");
        same("has", all(), new int[16]);
        due("path", x.path(0, 0), NONE);
    }

    private static void asAtFirst() {
        says("4: without one all is as at first, nothing is KEPT or MET, no ACT can be undone; the seed stays");
        begin(ONE + "path b delay 1;join b at 0 token 1;drops from=5;loss 40;waits 3;");
        x.seed(12);
        x.ticks(5);
        x.spoil(0);
        x.kill(0);
        x.join(1, 2);
        meet(0, 0, 0);
        due("kept", x.has(13), 2);
        due("met", x.has(14), 1);
        due("acts", x.has(15), 4);
        due("refused joins", x.refusals(0), 2);
        due("stream", tell(TWO), 4);
        same("has", all(), new int[] {10, 2, 1, 0, 0, 0, 10, 0, 0, 0, 0, 0, 0, 0, 0, 0});
        due("the seed", x.has(16), 12);
        due("undo", x.undo(), false);
        due("kept", x.kept(0, 0), NONE);
        for (int k = 0; k < 4; k++) {
            due("refusals " + k, x.refusals(k), 0);
        }
        same("path 0", pathRow(0), new int[] {1, 1, 0, 2000, 0, 0, 0, 0, 6});
        same("path 1", pathRow(1), new int[] {2, 0, 0, 0, 0, 0, 0, 0, 10});
        for (int k = 0; k < 10; k++) {
            due("octet " + k, x.octet(k), 0);
        }
        due("drops, loss went", x.odds(0), 100);
        due("finish", x.finish(), 3);
        due("all delays again", x.delays(0), 1022);
        says("4: how many STATEMENTS");
        good(HEAD, 1);
        good(ONE, 2);
    }

    private static void behindAnother() {
        says("4: all is as at first, whatever was told and done ahead");
        String plain = "stream 120 unit 7 window 60 key 41;path d delay 3;path c delay 1;path b delay 2;path a delay 5;"
            + "join c at 4 token 288;join b at 5 token 288;";
        begin(plain);
        int[] first = watch();
        pass(8);
        int[] later = watch();
        String[] ahead = {RICH, RICH + "loss 60;", RICH + "@", RICH + "picks", "other", plain};
        for (int k = 0; k < ahead.length; k++) {
            begin(RICH + "loss 40;");
            x.ticks(9);
            x.spoil(1);
            x.kill(0);
            tell(ahead[k]);
            x.ticks(9);
            x.kill(2);
            x.ticks(1);
            due("behind " + k, tell(plain), 7);
            same("behind " + k, watch(), first);
            due("no loss", x.odds(0), 100);
            pass(8);
            same("later, behind " + k, watch(), later);
        }
    }

    private static void fault() {
        says("5: its FAULT (0 without, and ahead of any), its place (NONE without), NONE for another what");
        x = new PathStream();
        due("ahead of any", x.fault(0), 0);
        due("ahead of any", x.fault(1), NONE);
        due("what 2", x.fault(2), NONE);
        due("what -1", x.fault(-1), NONE);
        tell(ONE + "loss 101;");
        due("fault", x.fault(0), 4);
        due("place", x.fault(1), 53);
        due("what 2", x.fault(2), NONE);
        due("what -1", x.fault(-1), NONE);
        due("what high", x.fault(HIGH), NONE);
        due("what low", x.fault(LOW), NONE);
        says("5: of the latest stream()");
        tell("@");
        due("fault", x.fault(0), 1);
        due("place", x.fault(1), 0);
        tell(ONE);
        due("fault", x.fault(0), 0);
        due("place", x.fault(1), NONE);
    }

    // ---- promises 6 to 11

    private static void promisesOfWhatIs() {
        has();
        hasAgain();
        letter();
        path();
        segment();
        octet();
        refusals();
    }

    private static void has() {
        says("6: without a stream all but the last are 0; NONE for others");
        x = new PathStream();
        due("has -1", x.has(-1), NONE);
        due("has 17", x.has(17), NONE);
        due("has low", x.has(LOW), NONE);
        due("has high", x.has(HIGH), NONE);
        due("has 16", x.has(16), 1);
        same("has", all(), new int[16]);
        begin(ONE);
        due("has -1", x.has(-1), NONE);
        due("has 17", x.has(17), NONE);
        due("has 16", x.has(16), 1);
        says("6: 2 JOINED ones that are not DEAD");
        begin(ONE + "path b delay 1;path c delay 1;");
        due("one", x.has(2), 1);
        x.join(1, 16);
        due("refused", x.has(2), 1);
        x.join(1, 17);
        due("two", x.has(2), 2);
        x.kill(0);
        due("one", x.has(2), 1);
        x.kill(1);
        due("none", x.has(2), 0);
        says("6: 7 bytes TAKEN (those that were READ, too)");
        begin(ONE + "reads 4;");
        x.ticks(1);
        due("taken", x.has(7), 0);
        x.ticks(1);
        due("taken", x.has(7), 10);
        due("read", x.has(8), 4);
        x.ticks(2);
        due("taken", x.has(7), 10);
        due("read", x.has(8), 10);
        says("6: 12 bytes that were sent in all");
        begin(ONE + "drops tick=0 and from=5;");
        x.ticks(6);
        due("twice five", x.has(12), 10);
        x.ticks(1);
        due("once more", x.has(12), 15);
    }

    private static void hasAgain() {
        says("6: 11 pieces to be sent AGAIN that have a byte from NEEDED on");
        begin("stream 2 unit 1 window 10 key 0;path a delay 1;drops from=1;");
        x.ticks(1);
        x.kill(0);
        due("both", x.has(11), 2);
        x.ticks(1);
        due("NEEDED is 0 still", x.has(11), 2);
        x.ticks(1);
        due("needed", x.has(5), 1);
        due("the last byte of one is NEEDED, that of the other one less", x.has(11), 1);
        begin(ONE + "drops from=5;");
        x.ticks(1);
        x.kill(0);
        x.ticks(2);
        due("needed", x.has(5), 5);
        due("one", x.has(11), 1);
        begin(ONE);
        x.ticks(1);
        x.kill(0);
        x.ticks(2);
        due("needed", x.has(5), 10);
        due("none", x.has(11), 0);
    }

    private static void letter() {
        says("7: letter k (0 .. 5) of the NAME of a PATH: 1 .. 26; 0 behind it; NONE when there is none such");
        begin(ONE + "path zyxwvu delay 1;path azazaz delay 1;path abcde delay 1;");
        int[] longest = {26, 25, 24, 23, 22, 21};
        int[] five = {1, 2, 3, 4, 5, 0};
        for (int k = 0; k < 6; k++) {
            due("letter 0 " + k, x.letter(0, k), k == 0 ? 1 : 0);
            due("letter 1 " + k, x.letter(1, k), longest[k]);
            due("letter 2 " + k, x.letter(2, k), k % 2 == 0 ? 1 : 26);
            due("letter 3 " + k, x.letter(3, k), five[k]);
        }
        for (int path = 0; path < 4; path++) {
            due("letter -1", x.letter(path, -1), NONE);
            due("letter 6", x.letter(path, 6), NONE);
            due("letter low", x.letter(path, LOW), NONE);
            due("letter high", x.letter(path, HIGH), NONE);
        }
        due("path 4", x.letter(4, 0), NONE);
        due("path -1", x.letter(-1, 0), NONE);
        begin(ONE);
        due("path 1", x.letter(1, 0), NONE);
        begin(HEAD);
        due("path 0", x.letter(0, 0), NONE);
    }

    private static void path() {
        says("8: NONE when there is none such, or for others");
        begin(ONE + "path b delay 9;path c delay 1;path d delay 1;");
        due("path 3", x.path(3, 0), 1);
        due("path 4", x.path(4, 0), NONE);
        due("path -1", x.path(-1, 0), NONE);
        due("path low", x.path(LOW, 0), NONE);
        due("path high", x.path(HIGH, 0), NONE);
        due("what -1", x.path(0, -1), NONE);
        due("what 8", x.path(0, 8), 6);
        due("what 9", x.path(0, 9), NONE);
        due("what high", x.path(0, HIGH), NONE);
        due("what low", x.path(0, LOW), NONE);
        says("8: 3 CWND (0 of one that never was JOINED)");
        due("never", x.path(1, 3), 0);
        x.join(1, 16);
        due("refused", x.path(1, 3), 0);
        x.join(1, 17);
        due("joined", x.path(1, 3), 2000);
        x.kill(1);
        due("it was joined", x.path(1, 3), 2000);
        says("8: 5 SEGMENTS flying on it, 6 how many were sent on it");
        begin(ONE);
        due("flying", x.path(0, 5), 0);
        x.ticks(1);
        due("flying", x.path(0, 5), 2);
        x.ticks(1);
        due("flying", x.path(0, 5), 2);
        x.ticks(1);
        due("answered", x.path(0, 5), 0);
        due("sent", x.path(0, 6), 2);
        says("8: 7 whether its next one is WRONG");
        begin(ONE);
        x.spoil(0);
        due("spoiled", x.path(0, 7), 1);
        x.ticks(1);
        due("it was sent", x.path(0, 7), 0);
        says("8: 8 how long it would be waited for an answer now");
        begin(ONE + "path b delay 9;waits tick*10+delay+cwnd/1000;");
        due("now", x.path(0, 8), 3);
        due("of one that is not joined", x.path(1, 8), 9);
        x.ticks(1);
        due("a TICK later", x.path(0, 8), 13);
        pass(9);
        due("99 at most", x.path(0, 8), 99);
    }

    private static void segment() {
        says("9: the k-th SEGMENT that flies, in the order in which they were sent");
        begin("stream 20 unit 5 window 20 key 0;path a delay 9;path b delay 9;join b at 0 token 17;picks 0-path;");
        x.ticks(1);
        int[][] rows = {{1, 0, 0, 5, 0}, {1, 1, 5, 5, 0}, {0, 0, 10, 5, 0}, {0, 1, 15, 5, 0}};
        for (int k = 0; k < 4; k++) {
            for (int what = 0; what < 5; what++) {
                due("segment " + k + " " + what, x.segment(k, what), rows[k][what]);
            }
        }
        says("9: NONE when there is none such, or for others");
        for (int what = 0; what < 6; what++) {
            due("segment -1", x.segment(-1, what), NONE);
            due("segment 4", x.segment(4, what), NONE);
            due("segment low", x.segment(LOW, what), NONE);
            due("segment high", x.segment(HIGH, what), NONE);
        }
        due("what -1", x.segment(3, -1), NONE);
        due("what 6", x.segment(3, 6), NONE);
        x.kill(1);
        due("the others fly on", x.segment(0, 2), 10);
        due("two are left", x.segment(1, 2), 15);
        due("two are left", x.segment(2, 2), NONE);
        begin(ONE);
        due("none flies yet", x.segment(0, 0), NONE);
        segmentsLeft();
        says("9: 5 its SUM: all its bytes together modulo 251");
        // byte k is (k k + 7 k + key) mod 251: 0 8 18 30 44 | 60 78 98 120 144, both sides of 251 by the key
        begin(ONE);
        x.ticks(1);
        due("100", x.segment(0, 5), 100);
        due("500 modulo 251", x.segment(1, 5), 249);
        begin("stream 1 unit 1 window 10 key 250;path a delay 1;");
        x.ticks(1);
        due("250", x.segment(0, 5), 250);
        begin("stream 1 unit 1 window 10 key 251;path a delay 1;");
        x.ticks(1);
        due("251", x.segment(0, 5), 0);
        begin("stream 1 unit 1 window 10 key 999;path a delay 1;");
        x.ticks(1);
        due("999", x.segment(0, 5), 246);
        lastSums();
    }

    private static void segmentsLeft() {
        says("9: those that fly still, when others do no more");
        begin("stream 17 unit 5 window 17 key 0;path a delay 1;path b delay 9;join b at 1 token 17;");
        pass(3);
        segmentRow(0, 1, 0, 10, 5, 1);
        segmentRow(1, 1, 1, 15, 2, 1);
        due("no more", x.segment(2, 0), NONE);
        begin(ONE + "drops from=5;");
        pass(3);
        segmentRow(0, 0, 1, 5, 5, 0);
        due("no more", x.segment(1, 0), NONE);
        pass(4);
        segmentRow(0, 0, 2, 5, 5, 6);
        due("no more", x.segment(1, 0), NONE);
    }

    private static void segmentRow(int k, int... due) {
        for (int what = 0; what < 5; what++) {
            due("segment " + k + " " + what, x.segment(k, what), due[what]);
        }
    }

    private static void lastSums() {
        says("II: byte k of the STREAM (0 and on) is (k k + 7 k + key) mod 251");
        // 199 199 + 7 199 + 999 is 41993, which is 76; in its SEGMENT alone
        begin("stream 200 unit 1 window 99 key 999;path a delay 1;");
        for (int tick = 0; tick < 100 && x.has(4) < 200; tick++) {
            x.ticks(1);
            int first = x.segment(0, 2);
            due("byte " + first, x.segment(0, 5), (first * first + 7 * first + 999) % 251);
        }
        due("the last byte", x.segment(x.has(9) - 1, 2), 199);
        due("the last byte", x.segment(x.has(9) - 1, 5), 76);
        begin("stream 20 unit 20 window 99 key 3;path a delay 1;");
        x.ticks(1);
        int sum = 0;
        for (int k = 0; k < 20; k++) {
            sum += (k * k + 7 * k + 3) % 251;
        }
        due("all twenty", x.segment(0, 5), sum % 251);
        due("twenty", x.segment(0, 3), 20);
    }

    private static void octet() {
        says("10: whether byte k is TAKEN (1), READ (2), none of both (0); NONE when there is none such");
        begin("stream 12 unit 5 window 12 key 0;path a delay 1;path b delay 3;join b at 0 token 17;reads 7;");
        due("octet -1", x.octet(-1), NONE);
        due("octet 12", x.octet(12), NONE);
        due("octet low", x.octet(LOW), NONE);
        due("octet high", x.octet(HIGH), NONE);
        due("octet 11", x.octet(11), 0);
        x.ticks(2);
        due("octet 0", x.octet(0), 2);
        due("the last read", x.octet(6), 2);
        due("the first behind it", x.octet(7), 1);
        due("the last taken", x.octet(9), 1);
        due("the first not taken", x.octet(10), 0);
        due("octet 11", x.octet(11), 0);
        x.ticks(2);
        due("octet 11", x.octet(11), 2);
        due("octet 12", x.octet(12), NONE);
        begin("stream 200 unit 20 window 99 key 0;path a delay 1;");
        due("octet 199", x.octet(199), 0);
        due("octet 200", x.octet(200), NONE);
    }

    private static void refusals() {
        says("11: SEGMENTS REFUSED by a cause (1 .. 3), JOINS REFUSED (0); NONE for others");
        x = new PathStream();
        for (int k = 0; k < 4; k++) {
            due("without a stream", x.refusals(k), 0);
        }
        due("refusals -1", x.refusals(-1), NONE);
        due("refusals 4", x.refusals(4), NONE);
        begin(ONE + "path b delay 1;");
        for (int k = 0; k < 4; k++) {
            due("refusals " + k, x.refusals(k), 0);
        }
        due("refusals -1", x.refusals(-1), NONE);
        due("refusals 4", x.refusals(4), NONE);
        due("refusals low", x.refusals(LOW), NONE);
        due("refusals high", x.refusals(HIGH), NONE);
        x.join(1, 18);
        due("a join", x.refusals(0), 1);
        x.join(1, 1000);
        due("a call that is refused is no JOIN", x.refusals(0), 1);
        x.join(0, 17);
        due("a call that is refused is no JOIN", x.refusals(0), 1);
    }

    // ---- promises 12 to 17

    private static void promisesAhead() {
        later();
        asTheyCome();
        killedNow();
        finish();
        without();
        alone();
        window();
        windowEdges();
        odds();
    }

    private static void later() {
        says("12: behind n TICKS AHEAD (0 .. 200)");
        begin(ONE);
        due("later 0", x.later(0, 0), 0);
        due("later 1", x.later(1, 0), 10);
        due("later 200", x.later(200, 1), 10);
        due("later 201", x.later(201, 1), NONE);
        due("later -1", x.later(-1, 1), NONE);
        due("later low", x.later(LOW, 1), NONE);
        due("later high", x.later(HIGH, 1), NONE);
        due("what 4", x.later(1, 4), 10);
        due("what 5", x.later(1, 5), NONE);
        due("what -1", x.later(1, -1), NONE);
        due("what high", x.later(1, HIGH), NONE);
        x = new PathStream();
        due("without a stream", x.later(0, 0), NONE);
        says("12: the last of 200 TICKS is gone through, not one more");
        // lost in TICK 0 and in TICK 99, the third goes out in TICK 198 and is taken in TICK 199
        begin(SLOW);
        due("198", x.later(198, 4), 10);
        due("199", x.later(199, 4), 15);
        due("199", x.later(199, 2), 0);
        due("200", x.later(200, 2), 5);
        due("200", x.later(200, 1), 0);
        says("III: AHEAD, not beyond TICK 999");
        begin(ONE);
        pass(799);
        due("200 at 799", x.later(200, 1), 10);
        pass(1);
        due("200 at 800", x.later(200, 1), NONE);
        due("199 at 800", x.later(199, 1), 10);
        pass(198);
        due("2 at 998", x.later(2, 1), NONE);
        due("1 at 998", x.later(1, 1), 10);
        pass(1);
        due("1 at 999", x.later(1, 1), NONE);
        due("0 at 999", x.later(0, 1), 10);
    }

    private static void rich(int ticks) {
        begin(RICH);
        x.ticks(1);
        x.spoil(0);
        pass(ticks - 1);
    }

    private static void asTheyCome() {
        says("III: AHEAD are TICKS as they come from now on");
        int[] asked = {4, 5, 8, 9, 12};
        for (int start = 1; start < 20; start += 3) {
            for (int n = 0; n < 16; n += 3) {
                rich(start);
                int[] told = new int[5];
                for (int what = 0; what < 5; what++) {
                    told[what] = x.later(n, what);
                }
                pass(n);
                for (int what = 0; what < 5; what++) {
                    due("later " + n + " " + what + " at " + start, told[what], x.has(asked[what]));
                }
            }
        }
        says("13: behind how many TICKS AHEAD it is FINISHED");
        rich(5);
        int finish = x.finish();
        pass(finish - 1);
        due("not yet", x.has(5) < 120, true);
        due("one more", x.finish(), 1);
        pass(1);
        due("needed", x.has(5), 120);
    }

    private static void killedNow() {
        says("14, 15: the same, if it is killed now");
        for (int start = 1; start < 20; start += 3) {
            for (int path = 0; path < 4; path++) {
                rich(start);
                x.join(2, 288);
                x.join(3, 288);
                int without = x.without(path);
                int alone = x.alone(path);
                // one that is DEAD already cannot be killed by hand
                boolean killed = x.kill(path);
                due("without " + path + " at " + start, without, x.finish());
                if (killed) {
                    x.undo();
                }
                for (int other = 0; other < 4; other++) {
                    if (other != path) {
                        x.kill(other);
                    }
                }
                due("alone " + path + " at " + start, alone, x.finish());
            }
        }
    }

    // Finished behind 201 TICKS: lost in TICK 0, sent again in TICK 99, lost, again in TICK 198, answered in TICK 200.
    private static final String SLOW = "stream 5 unit 5 window 10 key 0;path a delay 1;waits 99;drops tick<100;";

    private static void finish() {
        says("13: behind how many TICKS AHEAD (0: now; 200 at most) it is FINISHED");
        begin(SLOW);
        due("201 is too many", x.finish(), NONE);
        x.ticks(1);
        due("200", x.finish(), 200);
        x.ticks(1);
        due("199", x.finish(), 199);
        pass(198);
        due("1", x.finish(), 1);
        x.ticks(1);
        due("now", x.finish(), 0);
        x.ticks(1);
        due("now", x.finish(), 0);
        says("13: NONE when it is not, or without a stream");
        x = new PathStream();
        due("without a stream", x.finish(), NONE);
        begin(HEAD);
        due("without paths", x.finish(), NONE);
        begin(ONE + "drops all;");
        due("never", x.finish(), NONE);
        says("13: not beyond TICK 999");
        begin(ONE + "path b delay 1;");
        x.kill(0);
        pass(996);
        x.join(1, 17);
        due("three TICKS to TICK 999", x.finish(), 3);
        x.undo();
        x.ticks(1);
        x.join(1, 17);
        due("two TICKS alone", x.finish(), NONE);
    }

    private static void without() {
        says("14: the same, if a PATH is killed now");
        begin(SLOW + "path b delay 1;path c delay 1;");
        due("201 is too many", x.without(1), NONE);
        x.ticks(1);
        due("200", x.without(1), 200);
        due("200", x.without(2), 200);
        due("the only one", x.without(0), NONE);
        says("14: NONE when there is none such, too");
        due("without 3", x.without(3), NONE);
        due("without -1", x.without(-1), NONE);
        due("without low", x.without(LOW), NONE);
        due("without high", x.without(HIGH), NONE);
        x = new PathStream();
        due("without a stream", x.without(0), NONE);
        says("14: one that is not JOINED is DEAD then, too");
        begin(ONE + "drops path=0;path b delay 1;join b at 20 token 17;");
        due("it would be joined", x.finish(), 23);
        due("it is dead", x.without(1), NONE);
        due("nothing was killed", x.path(1, 2), 0);
        due("nothing was refused", x.refusals(0), 0);
        says("14: one that is DEAD already");
        begin(TWO);
        x.kill(1);
        due("no change", x.without(1), 3);
        says("14: 0: now");
        pass(3);
        due("finished", x.without(0), 0);
    }

    private static void alone() {
        says("15: the same, if all other PATHS are killed now likewise");
        begin(SLOW + "path b delay 1;path c delay 1;");
        due("201 is too many", x.alone(0), NONE);
        x.ticks(1);
        due("200", x.alone(0), 200);
        due("one that is not joined", x.alone(1), NONE);
        says("15: NONE when there is none such, too");
        due("alone 3", x.alone(3), NONE);
        due("alone -1", x.alone(-1), NONE);
        due("alone low", x.alone(LOW), NONE);
        due("alone high", x.alone(HIGH), NONE);
        x = new PathStream();
        due("without a stream", x.alone(0), NONE);
        says("15: one alone, the first, the last, all others dead, joined or not");
        begin(ONE + "path b delay 2;path c delay 3;path d delay 4;"
            + "join b at 1 token 17;join c at 2 token 17;join d at 3 token 17;");
        due("alone 0", x.alone(0), 3);
        due("alone 1", x.alone(1), 6);
        due("alone 2", x.alone(2), 9);
        due("alone 3", x.alone(3), 12);
        due("nothing was killed", x.has(2), 1);
        due("nothing is kept", x.has(13), 0);
        pass(4);
        due("0: now", x.alone(3), 0);
    }

    private static void window() {
        says("16: a WINDOW for n TICKS (1 .. 200); NONE when 99 is not enough, n can't be, or without a stream");
        x = new PathStream();
        due("without a stream", x.window(1), NONE);
        begin(ONE);
        due("window 0", x.window(0), NONE);
        due("window -1", x.window(-1), NONE);
        due("window low", x.window(LOW), NONE);
        due("window high", x.window(HIGH), NONE);
        due("window 201", x.window(201), NONE);
        due("window 200", x.window(200), 10);
        due("window 3", x.window(3), 10);
        due("window 2", x.window(2), NONE);
        begin(SLOW);
        due("201 TICKS", x.window(200), NONE);
        x.ticks(1);
        due("200 TICKS", x.window(200), 5);
        due("200 TICKS", x.window(199), NONE);
        says("16: the least of unit .. 99");
        pass(200);
        due("unit", x.window(1), 5);
        due("window 0 where it is finished", x.window(0), NONE);
        due("window -1 where it is finished", x.window(-1), NONE);
        due("window 200 where it is finished", x.window(200), 5);
        due("window 201 where it is finished", x.window(201), NONE);
        begin("stream 1 unit 20 window 10 key 0;path a delay 1;");
        due("unit, though fewer bytes would do", x.window(3), 20);
        begin("stream 1 unit 1 window 10 key 0;path a delay 1;");
        due("unit", x.window(3), 1);
        says("16: not beyond TICK 999");
        pass(899);
        due("100 at 899", x.window(100), 1);
        due("101 at 899", x.window(101), NONE);
        pass(99);
        due("1 at 998", x.window(1), 1);
        pass(1);
        due("1 at 999", x.window(1), NONE);
    }

    private static void windowEdges() {
        String four = "path a delay 1;path b delay 1;path c delay 1;path d delay 1;"
            + "join b at 0 token 17;join c at 0 token 17;join d at 0 token 17;";
        says("16: NONE when 99 is not enough");
        // the first answer, in TICK 2, tells an EDGE of 10 and the window; all must go then
        begin("stream 108 unit 20 window 10 key 0;" + four);
        due("98", x.window(5), 98);
        begin("stream 109 unit 20 window 10 key 0;" + four);
        due("99", x.window(5), 99);
        begin("stream 110 unit 20 window 10 key 0;" + four);
        due("100 would be", x.window(5), NONE);
        says("III: EDGE, as the sender knows it, stays");
        begin("stream 20 unit 5 window 10 key 0;" + four);
        due("what is below EDGE is sent all the same", x.window(3), NONE);
        begin("stream 20 unit 5 window 20 key 0;" + four);
        due("all is below EDGE", x.window(3), 20);
        says("II: one with a byte from READ plus window on is REFUSED (cause 2)");
        // one of 11 bytes: with a window of 10 its last byte is that of READ plus window
        begin("stream 11 unit 11 window 11 key 0;path a delay 1;");
        due("unit", x.window(3), 11);
        begin("stream 12 unit 6 window 12 key 0;path a delay 1;reads 0;");
        due("the second ends at 12", x.window(3), 12);
        // a second one that comes when six bytes were read: READ plus window is 12 with 6
        begin("stream 12 unit 6 window 12 key 0;path a delay 1;path b delay 2;join b at 0 token 17;picks flying*9+path;");
        due("six were read", x.window(5), 6);
        due("six were read", x.window(4), NONE);
    }

    private static void odds() {
        says("17: NONE when no SEGMENT would be sent in the next TICK, beyond TICK 999, without a stream, or for others");
        x = new PathStream();
        due("without a stream", x.odds(0), NONE);
        due("without a stream", x.odds(1), NONE);
        begin(ONE + "loss 1;");
        due("odds 0", x.odds(0), 99);
        due("odds 1", x.odds(1), 100);
        due("odds 2", x.odds(2), NONE);
        due("odds -1", x.odds(-1), NONE);
        due("odds low", x.odds(LOW), NONE);
        due("odds high", x.odds(HIGH), NONE);
        x.ticks(1);
        due("none would be", x.odds(0), NONE);
        due("none would be", x.odds(1), NONE);
        begin(ONE + "path b delay 1;");
        x.kill(0);
        due("no path", x.odds(1), NONE);
        pass(998);
        x.join(1, 17);
        due("in TICK 998", x.odds(1), 100);
        due("in TICK 998", x.odds(0), 100);
        x.undo();
        x.ticks(1);
        x.join(1, 17);
        due("in TICK 999", x.odds(1), NONE);
        due("in TICK 999", x.odds(0), NONE);
        says("III: by how many of all rows of a number below 100 it is not lost (0, if drops holds for it)");
        int[] losses = {0, 1, 50, 99, 100};
        for (int loss : losses) {
            begin(ONE + "loss " + loss + ";");
            due("loss " + loss, x.odds(0), 100 - loss);
            due("rows", x.odds(1), 100);
            begin(ONE + "loss " + loss + ";drops from=0;");
            due("drops holds, loss " + loss, x.odds(0), 0);
            due("rows", x.odds(1), 100);
        }
        says("III: the SEGMENT that would be sent first in the next TICK");
        begin(ONE + "drops from=5;");
        due("the second is dropped alone", x.odds(0), 100);
        begin(ONE + "drops tick=1;");
        due("in TICK 0", x.odds(0), 100);
        begin(TWO + "drops tick=7;waits 7;");
        pass(1);
        x.kill(0);
        due("what is sent AGAIN, too", x.odds(0), 100);
        due("no DRAW was made", x.has(16), 1);
    }

    // ---- promises 18 to 20

    private static void promisesOfSlowness() {
        meetTape();
        metRows();
        delays();
        delaysOfWhatFlies();
        delaysAsTold();
        tells();
        tellsFirst();
    }

    private static void meetTape() {
        says("18: the tape (it goes) tells MET, 1 to 16 rows of three bytes; NONE, refused (5), when it is none such");
        begin(ONE);
        due("no row", meet(), NONE);
        due("refused", x.status(5), 1);
        due("no row is met", x.has(14), 0);
        due("a row", meet(0, 0, 0), 1);
        due("met", x.has(14), 1);
        int[] lengths = {1, 2, 4, 5, 47, 49, 50, 51, 52, 54, 60};
        for (int k = 0; k < lengths.length; k++) {
            due("of " + lengths[k] + " bytes", meet(new int[lengths[k]]), NONE);
            due("refused", x.status(5), k + 2);
            due("the tape went", x.end(1), false);
            due("what was met stays", x.has(14), 1);
        }
        due("15 rows", meet(new int[45]), 15);
        due("16 rows", meet(new int[48]), 16);
        due("the tape went", x.end(1), false);
        due("met", x.has(14), 16);
        due("two rows", meet(new int[6]), 2);
        due("met", x.has(14), 2);
        says("18: or without a stream");
        x = new PathStream();
        due("meet", meet(0, 0, 0), NONE);
        due("refused", x.status(5), 1);
        due("the tape went", x.end(1), false);
        due("met", x.has(14), 0);
        tell(ONE);
        due("met", x.has(14), 0);
        due("all", x.delays(0), 1022);
    }

    private static void metRows() {
        says("III: MET are rows of TICKS AHEAD (0 .. 60), 0 or 1, a number (0 .. 200)");
        begin(ONE);
        due("60", meet(60, 0, 0), 1);
        due("61", meet(61, 0, 0), NONE);
        due("255", meet(255, 0, 0), NONE);
        due("1", meet(0, 1, 0), 1);
        due("2", meet(0, 2, 0), NONE);
        due("255", meet(0, 255, 0), NONE);
        due("200", meet(0, 0, 200), 1);
        due("201", meet(0, 0, 201), NONE);
        due("255", meet(0, 0, 255), NONE);
        due("refused", x.status(5), 6);
        int[] rows = new int[48];
        rows[45] = 60;
        rows[46] = 1;
        rows[47] = 200;
        due("in the last row", meet(rows), 16);
        rows[45] = 61;
        due("in the last row", meet(rows), NONE);
        rows[45] = 60;
        rows[46] = 2;
        due("in the last row", meet(rows), NONE);
        rows[46] = 1;
        rows[47] = 201;
        due("in the last row", meet(rows), NONE);
        due("met", x.has(14), 16);
    }

    private static void delays() {
        says("19: all, if there was none; as bits (bit k for a delay of k); NONE when there is none such");
        begin(ONE + "path b delay 5;");
        due("delays", x.delays(0), 1022);
        due("of one that is told alone", x.delays(1), 1022);
        due("delays 2", x.delays(2), NONE);
        due("delays -1", x.delays(-1), NONE);
        due("delays low", x.delays(LOW), NONE);
        due("delays high", x.delays(HIGH), NONE);
        x = new PathStream();
        due("without a stream", x.delays(0), NONE);
        says("III: DELAYS (1 .. 9) are those that a told PATH can have, so that all is so");
        // with a delay of d: READ is 10 behind d + 1 TICKS, NEEDED behind 2 d + 1
        begin(ONE);
        for (int d = 1; d <= 9; d++) {
            meet(d + 1, 1, 10, d, 1, 0);
            due("read: " + d, x.delays(0), 1 << d);
            meet(2 * d + 1, 0, 10, 2 * d, 0, 0);
            due("needed: " + d, x.delays(0), 1 << d);
        }
        meet(1, 1, 10);
        due("below 1", x.delays(0), 0);
        meet(10, 1, 0);
        due("above 9", x.delays(0), 0);
        meet(10, 1, 10);
        due("each", x.delays(0), 1022);
        meet(5, 1, 9);
        due("not quite", x.delays(0), 0);
        meet(0, 0, 0, 0, 1, 0);
        due("0: now", x.delays(0), 1022);
        meet(0, 1, 1);
        due("0: now", x.delays(0), 0);
        int[] rows = new int[48];
        rows[45] = 3;
        rows[46] = 1;
        rows[47] = 10;
        meet(rows);
        due("the last of 16 rows counts", x.delays(0), 6);
        says("19: of the latest meet() of this STREAM that was not refused");
        meet(61, 0, 0);
        due("a refused one", x.delays(0), 6);
        meet(2, 1, 10);
        due("a later one", x.delays(0), 2);
        tell(ONE);
        due("another stream", x.delays(0), 1022);
        says("19: TICKS beyond 999 are by none");
        pass(939);
        meet(60, 0, 10);
        due("TICK 999", x.delays(0), 1022);
        pass(1);
        due("TICK 1000", x.delays(0), 0);
        meet(59, 0, 10);
        due("TICK 999", x.delays(0), 1022);
        pass(59);
        meet(0, 0, 10);
        due("now", x.delays(0), 1022);
        meet(1, 0, 10);
        due("TICK 1000", x.delays(0), 0);
    }

    private static void delaysOfWhatFlies() {
        says("III: from now on (what flies goes on)");
        begin("stream 10 unit 5 window 10 key 0;path a delay 3;");
        x.ticks(1);
        // both arrive in TICK 3 whatever the delay is from now on, and are answered d later
        meet(2, 1, 0, 3, 1, 10);
        due("the segments", x.delays(0), 1022);
        for (int d = 1; d <= 9; d++) {
            meet(d + 3, 0, 10, d + 2, 0, 0);
            due("their answers set out later", x.delays(0), 1 << d);
        }
        x.ticks(3);
        due("on their way", x.has(10), 2);
        meet(2, 0, 0, 3, 0, 10);
        due("answers on their way", x.delays(0), 1022);
        due("the delay is as it was", x.path(0, 0), 3);
    }

    private static void delaysAsTold() {
        says("III: DELAYS at TICK 0 are as if the PATH were told so");
        for (int d = 1; d <= 9; d++) {
            begin(RICH.replace("a delay 3", "a delay " + d));
            int[] rows = {7, 1, x.later(7, 2), 15, 0, x.later(15, 1), 20, 1, x.later(20, 2), 30, 0, x.later(30, 1), 44, 1, x.later(44, 2)};
            begin(RICH);
            meet(rows);
            due("a delay of " + d, x.delays(0) >> d & 1, 1);
            due("not any delay", x.delays(0) < 1022, true);
        }
    }

    private static void tells() {
        says("20: NONE without any left, when no TICK comes, there is none such, or for others");
        x = new PathStream();
        due("without a stream", x.tells(0, 0), NONE);
        begin(ONE + "path b delay 1;");
        due("what -1", x.tells(0, -1), NONE);
        due("what 3", x.tells(0, 3), NONE);
        due("what low", x.tells(0, LOW), NONE);
        due("what high", x.tells(0, HIGH), NONE);
        due("path -1", x.tells(-1, 0), NONE);
        due("path 2", x.tells(2, 0), NONE);
        due("path low", x.tells(LOW, 0), NONE);
        due("path high", x.tells(HIGH, 0), NONE);
        tellsRow(0, 5, 1, 5);
        meet(2, 1, 10);
        tellsRow(0, 1, 0, 1);
        meet(9, 1, 0);
        tellsRow(0, 1, 0, 1);
        meet(1, 1, 10);
        tellsRow(0, NONE, NONE, NONE);
        tell(ONE);
        pass(998);
        tellsRow(0, 1, 0, 9);
        pass(1);
        tellsRow(0, NONE, NONE, NONE);
        says("III: TELLING is the number of TICKS AHEAD (1 .. 60)");
        // it is joined in TICK 51, and only delays of 8 and 9 are left: read in TICK 59 or 60
        begin(ONE + "path b delay 1;join b at 51 token 17;");
        x.kill(0);
        meet(59, 1, 0);
        due("8, 9", x.delays(1), 768);
        tellsRow(1, 60, 1, 1);
        begin(ONE + "path b delay 1;join b at 52 token 17;");
        x.kill(0);
        meet(60, 1, 0);
        due("8, 9", x.delays(1), 768);
        tellsRow(1, 1, 0, 2);
        says("III: TELLING not beyond TICK 999");
        begin(ONE + "path b delay 1;");
        x.kill(0);
        pass(996);
        x.join(1, 17);
        tellsRow(1, 3, 1, 7);
        x.undo();
        pass(1);
        x.join(1, 17);
        tellsRow(1, 2, 1, 8);
    }

    private static void tellsFirst() {
        says("III: of like ones the first, TICK by TICK");
        // READ behind 5 TICKS parts four from five, behind 6 five from four, NEEDED behind 9 and 11 likewise
        begin(ONE);
        tellsRow(0, 5, 1, 5);
        begin(ONE + "reads 0;");
        tellsRow(0, 9, 0, 5);
        begin(ONE + "drops all;");
        tellsRow(0, 1, 0, 9);
        says("III: of like ones the first, 0 ahead of 1");
        // nine TICKS come; of 4 .. 9 behind the last of them NEEDED parts 4 from all others, READ 9
        begin(ONE + "path b delay 1;reads if(tick=998,99,0);");
        x.kill(0);
        pass(990);
        x.join(1, 17);
        meet(7, 0, 0);
        due("4 .. 9", x.delays(1), 1008);
        tellsRow(1, 9, 0, 5);
        // with 8 as well, NEEDED parts nothing
        x.undo();
        x.ticks(1);
        x.join(1, 17);
        meet(7, 0, 0);
        tellsRow(1, 8, 1, 4);
        says("III: whatever it is, the most of these left are fewest");
        begin(ONE);
        meet(4, 1, 0);
        due("4 .. 9", x.delays(0), 1008);
        tellsRow(0, 7, 1, 3);
        meet(8, 1, 0);
        due("8, 9", x.delays(0), 768);
        tellsRow(0, 9, 1, 1);
    }

    // ---- promises 21 to 29

    private static void promisesOfActs() {
        ticks();
        chance();
        join();
        kill();
        spoil();
        undo();
        undoEach();
        undoRich();
        seed();
        kept();
        status();
    }

    private static void ticks() {
        says("21: n TICKS go by (1 .. 100); NONE, refused (2), when it can't be");
        x = new PathStream();
        due("without a stream", x.ticks(1), NONE);
        due("refused", x.status(2), 1);
        begin(ONE);
        int[] wrongs = {0, -1, 101, LOW, HIGH};
        for (int k = 0; k < wrongs.length; k++) {
            due("ticks " + wrongs[k], x.ticks(wrongs[k]), NONE);
            due("refused", x.status(2), k + 1);
        }
        due("none went by", x.has(3), 0);
        due("no act", x.has(15), 0);
        due("one", x.ticks(1), 2);
        due("tick", x.has(3), 1);
        due("100", x.ticks(100), 0);
        due("tick", x.has(3), 101);
        due("two acts", x.has(15), 2);
        due("no DRAW", x.has(16), 1);
        due("refused", x.status(2), 5);
        says("21: beyond TICK 999");
        begin(ONE);
        pass(899);
        due("101 to 1000", x.ticks(101), NONE);
        due("100 to 999", x.ticks(100), 0);
        due("tick", x.has(3), 999);
        due("one more", x.ticks(1), NONE);
        due("tick", x.has(3), 999);
        x.undo();
        x.ticks(99);
        due("two at 998", x.ticks(2), NONE);
        due("none went by", x.has(3), 998);
        due("one at 998", x.ticks(1), 0);
        due("tick", x.has(3), 999);
        begin(ONE);
        pass(900);
        due("100 to 1000", x.ticks(100), NONE);
        due("99 to 999", x.ticks(99), 0);
        due("refused", x.status(2), 1);
        says("21: how many SEGMENTS were sent");
        begin(ONE + "drops all;");
        due("two, and none answered", x.ticks(6), 2);
        begin("stream 12 unit 1 window 12 key 0;path a delay 1;");
        due("two", x.ticks(1), 2);
        due("and three", x.ticks(2), 3);
        due("and four", x.ticks(2), 4);
        due("the rest", x.ticks(100), 3);
        due("none", x.ticks(100), 0);
    }

    private static void chance() {
        says("22: n TICKS by the seed (1 .. 100), one ACT; NONE, refused (2), when it can't be");
        x = new PathStream();
        due("without a stream", x.chance(1), NONE);
        due("refused", x.status(2), 1);
        begin(ONE);
        int[] wrongs = {0, -1, 101, LOW, HIGH};
        for (int k = 0; k < wrongs.length; k++) {
            due("chance " + wrongs[k], x.chance(wrongs[k]), NONE);
            due("refused", x.status(2), k + 1);
        }
        due("no act", x.has(15), 0);
        due("none went by", x.has(3), 0);
        due("no DRAW", x.has(16), 1);
        due("one", x.chance(1), 0);
        due("a DRAW for each", x.has(16), 377401575);
        due("100", x.chance(100), 0);
        due("tick", x.has(3), 101);
        due("two acts", x.has(15), 2);
        due("no DRAW where none is sent", x.has(16), 377401575);
        says("22: beyond TICK 999");
        begin(ONE);
        pass(899);
        due("101 to 1000", x.chance(101), NONE);
        due("100 to 999", x.chance(100), 0);
        due("one more", x.chance(1), NONE);
        due("tick", x.has(3), 999);
        begin(ONE);
        pass(900);
        due("100 to 1000", x.chance(100), NONE);
        due("99 to 999", x.chance(99), 0);
    }

    private static void join() {
        says("23: a token (0 .. 999)");
        begin(ONE + "path b delay 1;");
        due("-1", x.join(1, -1), false);
        due("1000", x.join(1, 1000), false);
        due("1017", x.join(1, 1017), false);
        due("low", x.join(1, LOW), false);
        due("high", x.join(1, HIGH), false);
        due("refused", x.status(3), 5);
        due("no act", x.has(15), 0);
        due("no JOIN", x.refusals(0), 0);
        due("0", x.join(1, 0), false);
        due("999", x.join(1, 999), false);
        due("16", x.join(1, 16), false);
        due("18", x.join(1, 18), false);
        due("they are not refused as calls", x.status(3), 5);
        says("23: an ACT, if it is REFUSED, too");
        due("acts", x.has(15), 4);
        due("JOINS REFUSED", x.refusals(0), 4);
        due("not joined", x.path(1, 1), 0);
        due("17", x.join(1, 17), true);
        due("acts", x.has(15), 5);
        due("JOINS REFUSED", x.refusals(0), 4);
        says("23: false, refused (3), when it is JOINED or DEAD already, or there is none such");
        due("joined", x.join(1, 17), false);
        due("joined", x.join(0, 17), false);
        x.kill(1);
        due("dead", x.join(1, 17), false);
        due("path 2", x.join(2, 17), false);
        due("path -1", x.join(-1, 17), false);
        due("path low", x.join(LOW, 17), false);
        due("path high", x.join(HIGH, 17), false);
        due("refused", x.status(3), 12);
        due("acts", x.has(15), 6);
        x = new PathStream();
        due("without a stream", x.join(0, 17), false);
        due("refused", x.status(3), 1);
        tokens();
    }

    private static void tokens() {
        says("II: the token (31 key + 17) mod 1000");
        int[][] keys = {{0, 17}, {1, 48}, {31, 978}, {32, 9}, {193, 0}, {999, 986}, {387, 14}, {354, 991}, {162, 39}, {322, 999}};
        for (int[] row : keys) {
            String text = "stream 1 unit 1 window 10 key " + row[0] + ";path a delay 1;path b delay 1;path c delay 1;join c at 0 token " + row[1] + ";";
            begin(text);
            due("one less", x.join(1, row[1] - 1), false);
            due("one more", x.join(1, row[1] + 1), false);
            due("key " + row[0], x.join(1, row[1]), true);
            x.ticks(1);
            due("told", x.path(2, 1), 1);
        }
    }

    private static void kill() {
        says("24: false, refused (3), when it is DEAD, not JOINED, or there is none such");
        x = new PathStream();
        due("without a stream", x.kill(0), false);
        due("refused", x.status(3), 1);
        begin(ONE + "path b delay 1;");
        due("not joined", x.kill(1), false);
        due("path 2", x.kill(2), false);
        due("path -1", x.kill(-1), false);
        due("path low", x.kill(LOW), false);
        due("path high", x.kill(HIGH), false);
        due("refused", x.status(3), 5);
        due("no act", x.has(15), 0);
        due("joined", x.kill(0), true);
        due("dead", x.path(0, 2), 1);
        due("an act", x.has(15), 1);
        due("dead", x.kill(0), false);
        due("refused", x.status(3), 6);
        due("kept once", x.has(13), 1);
        x.join(1, 17);
        due("the last", x.kill(1), true);
        due("acts", x.has(15), 3);
        due("none is left", x.has(2), 0);
    }

    private static void spoil() {
        says("25: false, refused (3), when it is so already, is DEAD, not JOINED, or there is none such");
        x = new PathStream();
        due("without a stream", x.spoil(0), false);
        due("refused", x.status(3), 1);
        begin(ONE + "path b delay 1;");
        due("not joined", x.spoil(1), false);
        due("path 2", x.spoil(2), false);
        due("path -1", x.spoil(-1), false);
        due("path low", x.spoil(LOW), false);
        due("path high", x.spoil(HIGH), false);
        due("no act", x.has(15), 0);
        due("joined", x.spoil(0), true);
        due("an act", x.has(15), 1);
        due("so already", x.spoil(0), false);
        due("refused", x.status(3), 6);
        x.join(1, 17);
        due("another", x.spoil(1), true);
        x.ticks(1);
        due("it was sent: no more so", x.spoil(0), true);
        x.kill(1);
        due("dead", x.spoil(1), false);
        due("refused", x.status(3), 7);
        says("II: the next SEGMENT sent on it is WRONG");
        begin(ONE);
        x.spoil(0);
        x.ticks(2);
        due("the first alone", x.refusals(1), 1);
        due("the second is taken", x.octet(5), 1);
        due("the first is not", x.octet(4), 0);
        says("II: one that is WRONG and lost does not reach the receiver");
        begin(ONE + "drops from=0;");
        x.spoil(0);
        x.ticks(3);
        due("none", x.refusals(1), 0);
        due("not dead", x.path(0, 2), 0);
    }

    private static void undo() {
        says("26: false, refused (4), when none can be");
        x = new PathStream();
        due("without a stream", x.undo(), false);
        due("refused", x.status(4), 1);
        begin(ONE);
        due("no act", x.undo(), false);
        due("refused", x.status(4), 1);
        x.ticks(1);
        due("one", x.undo(), true);
        due("no more", x.undo(), false);
        due("refused", x.status(4), 2);
        says("II: the last 20 can be undone");
        for (int k = 1; k <= 22; k++) {
            x.ticks(1);
            due("acts", x.has(15), Math.min(k, 20));
        }
        for (int k = 1; k <= 20; k++) {
            due("undo", x.undo(), true);
            due("acts", x.has(15), 20 - k);
            due("tick", x.has(3), 22 - k);
        }
        due("the 21st", x.undo(), false);
        due("tick", x.has(3), 2);
        says("II: behind what was undone others come");
        for (int k = 0; k < 19; k++) {
            x.ticks(2);
        }
        due("19", x.has(15), 19);
        x.undo();
        x.undo();
        due("17", x.has(15), 17);
        x.ticks(3);
        x.ticks(3);
        x.ticks(3);
        due("20", x.has(15), 20);
        due("tick", x.has(3), 2 + 34 + 9);
        for (int k = 0; k < 20; k++) {
            due("undo", x.undo(), true);
        }
        due("tick", x.has(3), 2);
        due("none", x.undo(), false);
    }

    private static void undoEach() {
        says("26: all is as it was ahead of it (but the seed)");
        begin("stream 30 unit 5 window 15 key 0;path a delay 2;path b delay 1;join b at 3 token 17;path c delay 3;"
            + "loss 30;drops number=1;reads 3;waits 5;");
        x.ticks(7);
        int[] was = snapshot();
        for (int act = 0; act < 6; act++) {
            due("act " + act, act(act), true);
            due("acts", x.has(15), 2);
            due("undo", x.undo(), true);
            same("behind act " + act, snapshot(), was);
        }
        says("26: but the seed");
        x.seed(1);
        x.chance(3);
        int seed = x.has(16);
        due("there were DRAWS", seed != 1, true);
        x.undo();
        due("the seed", x.has(16), seed);
    }

    private static void undoRich() {
        says("26: all is as it was ahead of it, and goes on so");
        for (int start = 3; start < 20; start += 4) {
            rich(start);
            int[] was = watch();
            pass(5);
            int[] later = watch();
            for (int act = 0; act < 4; act++) {
                rich(start);
                due("an act", actRich(act), true);
                due("undo", x.undo(), true);
                same("behind act " + act + " at " + start, watch(), was);
                pass(5);
                same("later, behind act " + act + " at " + start, watch(), later);
            }
        }
    }

    private static boolean actRich(int kind) {
        switch (kind) {
            case 0: return x.ticks(40) >= 0;
            case 1: return x.chance(7) >= 0;
            case 2: return x.kill(1);
            default: return x.spoil(1);
        }
    }

    private static boolean act(int kind) {
        switch (kind) {
            case 0: return x.ticks(30) >= 0;
            case 1: return x.chance(30) >= 0;
            case 2: return x.join(2, 17);
            case 3: return !x.join(2, 18);
            case 4: return x.kill(0);
            default: return x.spoil(1);
        }
    }

    private static int[] snapshot() {
        int[] answers = new int[70];
        int at = 0;
        for (int k = 0; k < 16; k++) {
            answers[at++] = x.has(k);
        }
        for (int path = 0; path < 3; path++) {
            for (int k = 1; k < 9; k++) {
                answers[at++] = x.path(path, k);
            }
        }
        for (int k = 0; k < 4; k++) {
            answers[at++] = x.refusals(k);
            answers[at++] = x.segment(k, 2);
            answers[at++] = x.octet(4 * k);
            answers[at++] = x.kept(k, 2);
            answers[at++] = x.later(5, k);
        }
        answers[at++] = x.finish();
        return answers;
    }

    private static void seed() {
        says("27: the seed: true; false, refused (5), when it is below 0");
        x = new PathStream();
        due("-1", x.seed(-1), false);
        due("low", x.seed(LOW), false);
        due("refused", x.status(5), 2);
        due("it stays", x.has(16), 1);
        due("0", x.seed(0), true);
        due("it is", x.has(16), 0);
        due("1", x.seed(1), true);
        due("high", x.seed(HIGH), true);
        due("it is", x.has(16), HIGH);
        due("refused", x.status(5), 2);
        due("no act", x.has(15), 0);
    }

    private static void kept() {
        says("28: the k-th from the oldest on; NONE when there is none such, or for others");
        x = new PathStream();
        due("without a stream", x.kept(0, 0), NONE);
        begin(TWO);
        due("nothing", x.kept(0, 0), NONE);
        x.join(1, 17);
        x.kill(1);
        x.ticks(4);
        x.kill(0);
        due("two", x.has(13), 2);
        keptRow(0, 2, 1, 0);
        keptRow(1, 2, 0, 4);
        for (int what = 0; what < 3; what++) {
            due("kept 2", x.kept(2, what), NONE);
            due("kept -1", x.kept(-1, what), NONE);
            due("kept low", x.kept(LOW, what), NONE);
            due("kept high", x.kept(HIGH, what), NONE);
        }
        due("what 3", x.kept(0, 3), NONE);
        due("what -1", x.kept(0, -1), NONE);
        due("what high", x.kept(0, HIGH), NONE);
        due("what low", x.kept(0, LOW), NONE);
    }

    private static void status() {
        says("29: how many were refused; NONE for others");
        x = new PathStream();
        due("-1", x.status(-1), NONE);
        due("6", x.status(6), NONE);
        due("low", x.status(LOW), NONE);
        due("high", x.status(HIGH), NONE);
        statusRow(0, 0, 0, 0, 0, 0);
        x.end(-1);
        statusRow(1, 0, 0, 0, 0, 0);
        x.stream();
        statusRow(1, 1, 0, 0, 0, 0);
        x.ticks(1);
        statusRow(1, 1, 1, 0, 0, 0);
        x.chance(1);
        statusRow(1, 1, 2, 0, 0, 0);
        x.join(0, 0);
        statusRow(1, 1, 2, 1, 0, 0);
        x.kill(0);
        statusRow(1, 1, 2, 2, 0, 0);
        x.spoil(0);
        statusRow(1, 1, 2, 3, 0, 0);
        x.undo();
        statusRow(1, 1, 2, 3, 1, 0);
        x.seed(-1);
        statusRow(1, 1, 2, 3, 1, 1);
        x.meet();
        statusRow(1, 1, 2, 3, 1, 2);
        for (int k = 0; k < 81; k++) {
            x.feed(0, 0, 0, 0, 0);
        }
        statusRow(2, 1, 2, 3, 1, 2);
        says("29: what is asked in vain is not counted");
        x.end(0);
        tell(ONE);
        x.has(99);
        x.path(9, 9);
        x.letter(9, 9);
        x.segment(9, 9);
        x.octet(-1);
        x.refusals(9);
        x.later(-1, 0);
        x.without(9);
        x.alone(9);
        x.window(0);
        x.odds(9);
        x.delays(9);
        x.tells(9, 9);
        x.kept(9, 9);
        x.fault(9);
        x.status(9);
        statusRow(2, 1, 2, 3, 1, 2);
    }

    private static void statusRow(int... due) {
        for (int k = 0; k < 6; k++) {
            due("status " + k, x.status(k), due[k]);
        }
    }
}
