/** The edges that Terms II names, of a TICK, what is SENT, ACTS and DRAWS, each under its sentence: at it, and on both sides of it. */
public final class EdgeTicks extends Edges {
    public static void main(String[] args) {
        termsOfATick();
        termsOfSending();
        termsOfActs();
        report();
    }

    // ---- Terms II: a TICK

    private static void termsOfATick() {
        joinsTold();
        answers();
        growth();
        wrongOnes();
        takenAlready();
        reading();
        answersForNone();
        waits();
        fails();
        dead();
        goesOn();
    }

    private static void joinsTold() {
        says("I: the first told is JOINED at TICK 0");
        begin(ONE + "path b delay 1;");
        due("the first", x.path(0, 1), 1);
        due("its CWND", x.path(0, 3), 2000);
        due("the second", x.path(1, 1), 0);
        says("II: JOINS told for it");
        int[] ticks = {0, 1, 98, 99};
        for (int tick : ticks) {
            begin(ONE + "path b delay 1;join b at " + tick + " token 17;");
            pass(tick);
            due("ahead of TICK " + tick, x.path(1, 1), 0);
            x.ticks(1);
            due("behind TICK " + tick, x.path(1, 1), 1);
            due("its CWND", x.path(1, 3), 2000);
            begin(ONE + "path b delay 1;join b at " + tick + " token 16;");
            pass(tick);
            due("none is refused yet", x.refusals(0), 0);
            x.ticks(1);
            due("not joined", x.path(1, 1), 0);
            due("refused", x.refusals(0), 1);
            x.ticks(100);
            due("once alone", x.refusals(0), 1);
            due("it can be joined by hand", x.join(1, 17), true);
        }
        says("II: a JOIN of a PATH that is not JOINED or DEAD; else it is REFUSED");
        begin(ONE + "path b delay 1;join b at 2 token 17;");
        x.join(1, 17);
        x.ticks(3);
        due("joined already", x.refusals(0), 1);
        due("joined still", x.path(1, 1), 1);
        begin(ONE + "path b delay 1;join b at 2 token 17;");
        x.join(1, 17);
        x.kill(1);
        x.ticks(3);
        due("dead already", x.refusals(0), 1);
        due("dead still", x.has(2), 1);
        says("II: one that joins in a TICK is sent on in it");
        begin("stream 20 unit 5 window 20 key 0;path a delay 1;path b delay 1;join b at 1 token 17;drops path=0;");
        due("two on the first", x.ticks(1), 2);
        due("two on the second", x.ticks(1), 2);
        due("it is the second", x.segment(2, 0), 1);
    }

    private static void answers() {
        says("II: NEEDED, EDGE are as it tells, if that is more");
        // the answer on a sets out in TICK 9 and tells 5 and 15 in TICK 18; that on b tells 10 and 20 in TICK 11
        begin("stream 10 unit 5 window 10 key 0;path a delay 9;path b delay 1;join b at 0 token 17;"
            + "picks flying*10+path;drops path=1 and tick=0;waits if(delay=1,9,99);");
        pass(11);
        due("needed", x.has(5), 0);
        due("edge", x.has(6), 10);
        pass(1);
        due("needed", x.has(5), 10);
        due("edge", x.has(6), 20);
        due("one is on its way", x.has(10), 1);
        pass(7);
        due("none is", x.has(10), 0);
        due("needed", x.has(5), 10);
        due("edge", x.has(6), 20);
        says("II: its answer reaches the sender as many TICKS later");
        for (int delay = 1; delay <= 9; delay += 4) {
            begin(HEAD + "path a delay " + delay + ";");
            pass(delay);
            due("not there yet", x.has(7), 0);
            pass(1);
            due("there", x.has(7), 10);
            due("on their way", x.has(10), 2);
            pass(delay - 1);
            due("not answered yet", x.has(5), 0);
            due("flying", x.has(9), 2);
            pass(1);
            due("answered", x.has(5), 10);
            due("flying", x.has(9), 0);
            due("none is on its way", x.has(10), 0);
        }
        says("II: if its SEGMENT flies still (ANSWERS come ahead of what FAILS)");
        begin("stream 5 unit 5 window 10 key 0;path a delay 3;waits 6;");
        pass(7);
        due("answered in time", x.path(0, 4), 0);
        due("cwnd", x.path(0, 3), 2500);
        due("kept", x.has(13), 0);
        begin("stream 5 unit 5 window 10 key 0;path a delay 3;waits 5;");
        pass(7);
        due("one TICK too late", x.path(0, 4), 1);
        due("cwnd", x.path(0, 3), 1000);
        due("kept", x.has(13), 1);
        due("needed all the same", x.has(5), 5);
        pass(5);
        due("the second fails, too", x.path(0, 4), 2);
        due("its answer is too late", x.path(0, 3), 1000);
    }

    private static void growth() {
        says("II: its CWND grows by 1000000 divided by the CWNDS of all together (the greatest whole number not above)");
        begin("stream 15 unit 5 window 15 key 0;path a delay 1;");
        pass(3);
        // 500, then 400
        due("2900", x.path(0, 3), 2900);
        pass(2);
        // 344.8
        due("3244", x.path(0, 3), 3244);
        says("II: of all PATHS that are JOINED, not DEAD");
        begin(ONE + "path b delay 1;");
        pass(3);
        due("one that is not joined", x.path(0, 3), 2900);
        begin(TWO);
        pass(3);
        // 250, then 235.2
        due("one that is joined", x.path(0, 3), 2485);
        due("the other does not grow", x.path(1, 3), 2000);
        begin(TWO);
        pass(2);
        x.kill(1);
        pass(1);
        due("one that is dead", x.path(0, 3), 2900);
        says("II: ANSWERS in the order in which they set out, SEGMENTS in the order in which they were sent");
        begin("stream 10 unit 5 window 10 key 0;path a delay 1;path b delay 1;join b at 0 token 17;picks flying*10-path;");
        pass(3);
        due("the first sent", x.path(1, 3), 2250);
        due("the second", x.path(0, 3), 2235);
        says("II: FAILED of its PATH is 0");
        begin(ONE + "drops tick=0 and from=0;");
        pass(6);
        due("none", x.path(0, 4), 0);
        pass(1);
        due("failed in TICK 6", x.path(0, 4), 1);
        pass(1);
        due("not answered yet", x.path(0, 4), 1);
        pass(1);
        due("answered in TICK 8", x.path(0, 4), 0);
    }

    private static void wrongOnes() {
        says("II: one that is WRONG is REFUSED (cause 1); ANSWERS set out but for those that are WRONG");
        begin(ONE);
        x.spoil(0);
        pass(2);
        due("wrong", x.refusals(1), 1);
        due("no other cause", x.refusals(2) + x.refusals(3), 0);
        due("taken", x.has(7), 5);
        due("one answer", x.has(10), 1);
        says("II: a PATH of which one was WRONG is DEAD then");
        due("dead", x.path(0, 2), 1);
        keptRow(0, 2, 0, 1);
        due("kept", x.has(13), 1);
        due("both pieces", x.has(11), 2);
        pass(9);
        due("once alone", x.has(13), 1);
        says("II: cause 1 goes ahead of cause 3");
        begin(TWO);
        pass(1);
        x.kill(0);
        x.spoil(1);
        // both pieces go on b in TICK 1, while those on a are taken; they arrive in TICK 3
        pass(2);
        due("nothing yet", x.refusals(1) + x.refusals(3), 0);
        pass(1);
        due("wrong", x.refusals(1), 1);
        due("taken already", x.refusals(3), 1);
        due("dead", x.path(1, 2), 1);
        says("II: their pieces come ahead of those of what FAILS");
        begin(PAIR + "drops path=0;waits 1;");
        x.join(1, 17);
        x.spoil(1);
        pass(2);
        due("b is dead, a has failed", x.path(1, 2) + x.path(0, 4), 2);
        due("pieces", x.has(11), 3);
        pass(1);
        due("b's piece is the first", x.segment(0, 2), 10);
        says("II: a PATH of which one was WRONG, no other one");
        begin(PAIR);
        x.join(1, 17);
        x.spoil(1);
        pass(2);
        due("wrong", x.refusals(1), 1);
        due("b", x.path(1, 2), 1);
        due("a had right ones in the same TICK", x.path(0, 2), 0);
        due("answers", x.has(10), 3);
        begin("stream 20 unit 5 window 20 key 0;path a delay 1;path b delay 3;join b at 0 token 17;");
        x.join(1, 17);
        x.spoil(0);
        x.spoil(1);
        pass(2);
        due("a", x.path(0, 2), 1);
        due("b's is on its way still", x.path(1, 2), 0);
        due("wrong", x.refusals(1), 1);
        pass(2);
        due("b", x.path(1, 2), 1);
        due("wrong", x.refusals(1), 2);
        begin("stream 17 unit 5 window 17 key 0;path a delay 1;path b delay 9;");
        pass(1);
        x.join(1, 17);
        x.spoil(1);
        pass(9);
        due("it flies, those of a do no more", x.has(9), 2);
        due("none is wrong yet", x.refusals(1), 0);
        pass(1);
        due("wrong", x.refusals(1), 1);
        due("b", x.path(1, 2), 1);
        says("II: one after the other, as these reached the receiver");
        begin("stream 20 unit 5 window 20 key 0;path a delay 1;path b delay 1;path c delay 1;picks if(path=2,9,0-path);");
        x.join(1, 17);
        x.join(2, 17);
        x.spoil(0);
        x.spoil(1);
        pass(2);
        due("wrong", x.refusals(1), 2);
        due("kept", x.has(13), 2);
        keptRow(0, 2, 1, 1);
        keptRow(1, 2, 0, 1);
        due("b's piece", x.segment(0, 2), 0);
        due("b's piece", x.segment(1, 2), 5);
        due("a's pieces", x.has(11), 2);
    }

    private static void takenAlready() {
        says("II: else one of which all bytes are TAKEN is REFUSED (cause 3); else its bytes are TAKEN");
        begin(TWO);
        pass(1);
        x.kill(0);
        pass(3);
        due("both", x.refusals(3), 2);
        due("taken once", x.has(7), 10);
        says("II: ANSWERS set out for each SEGMENT that reached the receiver, REFUSED so, too");
        due("two answers", x.has(10), 2);
        due("they fly", x.has(9), 2);
        pass(2);
        due("they do no more", x.has(9), 0);
        due("cwnd", x.path(1, 3), 2900);
        says("II: one that is lost does not reach the receiver");
        begin(TWO + "drops tick=0;");
        pass(1);
        x.kill(0);
        pass(3);
        due("none was taken ahead", x.refusals(3), 0);
        due("taken", x.has(7), 10);
    }

    private static void reading() {
        says("II: the reader reads as many of the bytes TAKEN in order as the SUM of reads tells, 0 at least");
        int[] sums = {9999, 11, 10, 9, 1, 0};
        for (int sum : sums) {
            begin(ONE + "reads " + sum + ";");
            pass(1);
            due("none yet", x.has(8), 0);
            pass(1);
            due("reads " + sum, x.has(8), Math.min(sum, 10));
            due("the last read", x.octet(0), sum > 0 ? 2 : 1);
            due("the last one", x.octet(9), sum > 9 ? 2 : 1);
            pass(1);
            due("edge", x.has(6), 10 + Math.min(sum, 10));
        }
        begin(ONE + "reads 0-1;");
        pass(50);
        due("0 at least", x.has(8), 0);
        due("edge", x.has(6), 10);
        due("needed", x.has(5), 10);
        says("II: without it: all");
        begin(ONE);
        pass(2);
        due("all", x.has(8), 10);
        says("II: bytes TAKEN in order");
        begin(ONE + "drops from=0 and tick=0;");
        pass(6);
        due("none", x.has(8), 0);
        due("taken", x.has(7), 5);
        pass(2);
        due("all", x.has(8), 10);
        says("II: with the first byte not TAKEN, and READ plus window (behind what was read)");
        begin(ONE + "drops from=5;reads 2;");
        pass(3);
        due("needed", x.has(5), 5);
        due("edge", x.has(6), 12);
    }

    private static void answersForNone() {
        says("II: if none does, and something was read, one sets out on the first PATH that is JOINED, not DEAD");
        begin(ONE + "reads 3;");
        pass(2);
        due("for two SEGMENTS", x.has(10), 2);
        due("read", x.has(8), 3);
        pass(1);
        due("for none", x.has(10), 1);
        due("read", x.has(8), 6);
        pass(2);
        due("read", x.has(8), 10);
        due("the last", x.has(10), 1);
        pass(1);
        due("nothing was read", x.has(10), 0);
        due("edge", x.has(6), 20);
        says("II: on the first one, if that is dead on the next");
        begin(TWO + "reads 3;");
        pass(2);
        x.kill(0);
        pass(1);
        due("it takes two TICKS on b", x.has(10), 1);
        due("edge", x.has(6), 13);
        pass(1);
        due("edge", x.has(6), 13);
        due("two", x.has(10), 2);
        pass(1);
        due("edge", x.has(6), 16);
        says("II: without such a PATH none does");
        begin(TWO + "reads 3;");
        pass(2);
        x.kill(0);
        x.kill(1);
        pass(1);
        due("none", x.has(10), 0);
        due("read", x.has(8), 6);
        pass(9);
        due("read", x.has(8), 10);
        due("edge", x.has(6), 13);
        says("II: a PATH of which one was WRONG is DEAD then: behind the ANSWERS");
        begin("stream 20 unit 5 window 10 key 0;path a delay 1;reads 3;");
        pass(2);
        x.spoil(0);
        due("three bytes", x.ticks(1), 1);
        pass(1);
        due("wrong", x.refusals(1), 1);
        due("dead", x.path(0, 2), 1);
        due("read", x.has(8), 9);
        due("an answer for none", x.has(10), 1);
        pass(1);
        due("edge", x.has(6), 19);
    }

    private static void waits() {
        says("II: sent as many TICKS ago as the SUM of waits tells, 1 .. 99 (below is 1, above 99), or more");
        int[][] rows = {{-1, 1}, {0, 1}, {1, 1}, {2, 2}, {98, 98}, {99, 99}, {100, 99}, {9999, 99}};
        for (int[] row : rows) {
            String sum = row[0] < 0 ? "0-1" : "" + row[0];
            begin(ONE + "drops all;waits " + sum + ";");
            due("waits " + sum, x.path(0, 8), row[1]);
            pass(row[1]);
            due("not yet, waits " + sum, x.has(13), 0);
            due("flying", x.has(9), 2);
            pass(1);
            due("the first, waits " + sum, x.has(13), 1);
            keptRow(0, 0, 0, 0);
            due("flying", x.has(9), 1);
        }
        says("II: or more");
        begin(ONE + "drops all;waits if(tick<20,99,3);");
        pass(20);
        due("not yet", x.has(13), 0);
        pass(1);
        due("20 TICKS ago", x.has(13), 1);
        says("II: without it: delay * 4 + 2");
        int[] delays = {1, 2, 9};
        for (int delay : delays) {
            begin(HEAD + "path a delay " + delay + ";drops all;");
            due("delay " + delay, x.path(0, 8), delay * 4 + 2);
            pass(delay * 4 + 2);
            due("not yet", x.has(13), 0);
            pass(1);
            due("then", x.has(13), 1);
        }
    }

    private static void fails() {
        says("II: PATH by PATH, by numbers, of its SEGMENTS that fly the first (by number)");
        begin(PAIR + "drops all;waits 4;");
        pass(5);
        due("one of each PATH", x.has(13), 2);
        keptRow(0, 0, 0, 0);
        keptRow(1, 0, 1, 10);
        due("flying", x.path(0, 5) + x.path(1, 5), 2);
        says("II: it flies no more, its piece is to be sent AGAIN, the PATH has FAILED once more");
        begin(ONE + "drops all;waits 4;");
        pass(4);
        due("failed", x.path(0, 4), 0);
        pass(1);
        due("failed", x.path(0, 4), 1);
        due("flying", x.path(0, 5), 1);
        due("again", x.has(11), 1);
        says("II: its CWND is half of it, 1000 at least");
        due("half of 2000", x.path(0, 3), 1000);
        pass(1);
        due("failed", x.path(0, 4), 2);
        due("1000 at least", x.path(0, 3), 1000);
        says("II: at FAILED 3 the PATH is DEAD");
        due("not dead at 2", x.path(0, 2), 0);
        pass(3);
        due("not dead at 2", x.path(0, 2), 0);
        pass(1);
        due("failed", x.path(0, 4), 3);
        due("dead at 3", x.path(0, 2), 1);
        due("kept", x.has(13), 4);
        keptRow(2, 0, 0, 0);
        keptRow(3, 2, 0, 9);
        says("II: half of it");
        // 2500 behind an answer, then 1250, then 1000
        begin(ONE + "drops from=5;");
        pass(6);
        due("cwnd", x.path(0, 3), 2500);
        pass(1);
        due("cwnd", x.path(0, 3), 1250);
        pass(6);
        due("cwnd", x.path(0, 3), 1000);
        // 2485 is odd: what is not whole falls away
        begin("stream 15 unit 5 window 15 key 0;path a delay 1;path b delay 9;join b at 2 token 17;drops tick=2;");
        pass(8);
        due("cwnd", x.path(0, 3), 2485);
        pass(1);
        due("cwnd", x.path(0, 3), 1242);
    }

    private static void dead() {
        says("II: one that is DEAD has none flying; their pieces are to be sent AGAIN, by numbers");
        // b has 0 .. 4, a has 5 .. 9; b is killed, so a has 0 .. 4 behind it; then c comes
        begin("stream 10 unit 5 window 10 key 0;path a delay 9;path b delay 9;path c delay 9;join b at 0 token 17;"
            + "picks flying*10+if(path=1,0,1);");
        pass(1);
        due("b", x.segment(0, 0), 1);
        due("a", x.segment(1, 0), 0);
        x.kill(1);
        due("flying", x.path(1, 5), 0);
        due("again", x.has(11), 1);
        pass(1);
        due("again on a", x.segment(1, 2), 0);
        due("its number", x.segment(1, 1), 1);
        x.kill(0);
        due("none flies", x.has(9), 0);
        due("again", x.has(11), 2);
        x.join(2, 17);
        pass(1);
        due("number 0", x.segment(0, 2), 5);
        due("number 1", x.segment(1, 2), 0);
        says("II: KEPT is each PATH that is DEAD (2; PATH, TICK)");
        due("kept", x.has(13), 2);
        keptRow(0, 2, 1, 1);
        keptRow(1, 2, 0, 2);
        says("II: nothing is sent on one that is DEAD");
        begin(ONE);
        x.kill(0);
        due("sent", x.ticks(50), 0);
    }

    private static void goesOn() {
        says("II: SEGMENTS, ANSWERS on their way go on");
        begin(ONE);
        pass(1);
        x.kill(0);
        due("none flies", x.has(9), 0);
        pass(1);
        due("they are taken", x.has(7), 10);
        due("answers on the dead path", x.has(10), 2);
        pass(1);
        due("needed", x.has(5), 10);
        due("edge", x.has(6), 20);
        due("cwnd stays", x.path(0, 3), 2000);
        begin(ONE);
        pass(2);
        due("answers on their way", x.has(10), 2);
        x.kill(0);
        due("answers on their way", x.has(10), 2);
        pass(1);
        due("needed", x.has(5), 10);
        says("II: so does a SEGMENT that FAILED");
        begin("stream 5 unit 5 window 10 key 0;path a delay 3;waits 2;");
        pass(3);
        due("failed", x.path(0, 4), 1);
        due("not taken", x.has(7), 0);
        pass(1);
        due("taken", x.has(7), 5);
        pass(2);
        due("the one sent again", x.refusals(3), 1);
        says("II: one that FAILED and is WRONG");
        begin("stream 5 unit 5 window 10 key 0;path a delay 3;waits 2;");
        x.spoil(0);
        pass(3);
        due("failed", x.path(0, 4), 1);
        pass(1);
        due("wrong", x.refusals(1), 1);
        due("dead", x.path(0, 2), 1);
        says("II: the STREAM is FINISHED, when NEEDED is its length");
        begin("stream 6 unit 5 window 10 key 0;path a delay 1;path b delay 2;join b at 0 token 17;picks flying*10+path;");
        pass(3);
        due("needed", x.has(5), 5);
        due("one is missing", x.finish(), 2);
        pass(2);
        due("needed", x.has(5), 6);
        due("finished", x.finish(), 0);
    }

    // ---- Terms II: what is SENT

    private static void termsOfSending() {
        pieces();
        nextBytes();
        room();
        penalty();
        penaltyEdges();
        penaltyPath();
    }

    private static void pieces() {
        says("II: the first to be sent AGAIN that has a byte from NEEDED on (those that have none are left out)");
        begin(ONE + "path b delay 1;drops from=5 and tick=0;");
        pass(1);
        x.kill(0);
        pass(2);
        due("needed", x.has(5), 5);
        x.join(1, 17);
        due("one piece", x.ticks(1), 1);
        due("it is", x.segment(0, 2), 5);
        due("bytes", x.segment(0, 3), 5);
        says("II: a piece is sent AGAIN as it was");
        begin("stream 13 unit 10 window 13 key 0;path a delay 1;path b delay 1;");
        pass(1);
        x.kill(0);
        x.join(1, 17);
        due("both", x.ticks(1), 2);
        due("ten", x.segment(0, 3), 10);
        due("three", x.segment(1, 3), 3);
        begin("stream 13 unit 10 window 13 key 0;path a delay 1;path b delay 1;drops from=10 and tick=0;");
        pass(1);
        x.kill(0);
        pass(2);
        x.join(1, 17);
        due("one", x.ticks(1), 1);
        due("it is", x.segment(0, 2), 10);
        due("three", x.segment(0, 3), 3);
        says("II: pieces to be sent AGAIN go ahead of the next bytes");
        begin("stream 20 unit 5 window 20 key 0;path a delay 1;path b delay 1;");
        pass(1);
        x.kill(0);
        x.join(1, 17);
        due("two", x.ticks(1), 2);
        due("the first", x.segment(0, 2), 0);
        due("the second", x.segment(1, 2), 5);
        due("SENT stays", x.has(4), 10);
        says("II: without one nothing is sent any more");
        begin(ONE);
        x.kill(0);
        due("none", x.ticks(9), 0);
        due("sent", x.has(4), 0);
    }

    private static void nextBytes() {
        says("II: the next bytes: unit, as far as there are so many below both: the STREAM's length");
        int[][] lengths = {{9, 4}, {10, 5}, {6, 1}};
        for (int[] row : lengths) {
            begin("stream " + row[0] + " unit 5 window 50 key 0;path a delay 1;");
            due("two", x.ticks(1), 2);
            due("five", x.segment(0, 3), 5);
            due("the rest", x.segment(1, 3), row[1]);
            due("sent", x.has(4), row[0]);
        }
        begin("stream 5 unit 5 window 50 key 0;path a delay 1;");
        due("one", x.ticks(1), 1);
        begin("stream 1 unit 20 window 50 key 0;path a delay 1;");
        due("one", x.ticks(1), 1);
        due("a byte", x.segment(0, 3), 1);
        says("II: the next bytes: unit, as far as there are so many below both: EDGE");
        int[][] windows = {{11, 6, 5}, {12, 6, 6}, {13, 10, 3}, {20, 10, 10}};
        for (int[] row : windows) {
            begin("stream 99 unit " + row[1] + " window " + row[0] + " key 0;path a delay 1;");
            due("two", x.ticks(1), 2);
            due("unit", x.segment(0, 3), row[1]);
            due("the rest", x.segment(1, 3), row[2]);
            due("sent", x.has(4), row[0]);
        }
        begin("stream 99 unit 10 window 10 key 0;path a delay 1;");
        due("one", x.ticks(1), 1);
        due("none", x.ticks(1), 0);
        due("one", x.ticks(1), 1);
        due("from", x.segment(0, 2), 10);
        begin("stream 99 unit 20 window 10 key 0;path a delay 1;");
        due("one", x.ticks(1), 1);
        due("less than unit", x.segment(0, 3), 10);
    }

    private static void room() {
        says("II: on which 1000 for each SEGMENT flying is less than CWND");
        begin("stream 99 unit 1 window 99 key 0;path a delay 1;");
        due("2 by 2000", x.ticks(1), 2);
        due("none by 2000 with 2 flying", x.ticks(1), 0);
        due("3 by 2900", x.ticks(1), 3);
        due("none by 2900 with 3 flying", x.ticks(1), 0);
        due("4 by 3833", x.ticks(1), 4);
        begin("stream 99 unit 1 window 99 key 0;path a delay 1;drops all;waits 5;");
        pass(7);
        due("cwnd", x.path(0, 3), 1000);
        due("1 by 1000", x.path(0, 5), 1);
        // 3127 behind a failure in TICK 10, then 319, 290 and 267 more
        begin("stream 200 unit 1 window 99 key 0;path a delay 1;drops from=5;");
        pass(12);
        due("four fly", x.path(0, 5), 4);
        due("one is lost, three are answered", x.ticks(1), 4);
        due("cwnd", x.path(0, 3), 4003);
        due("five by 4003", x.path(0, 5), 5);
        says("II: that of all JOINED, not DEAD");
        begin(PAIR);
        x.ticks(1);
        due("two on each", x.path(0, 5) * 10 + x.path(1, 5), 22);
        begin(PAIR);
        x.join(1, 17);
        x.kill(1);
        x.ticks(1);
        due("two on one", x.path(0, 5) * 10 + x.path(1, 5), 20);
        begin("stream 20 unit 5 window 20 key 0;path a delay 9;path b delay 1;");
        x.ticks(1);
        due("not on one that is told alone", x.path(0, 5) * 10 + x.path(1, 5), 20);
    }

    private static String slow(int length, String more) {
        return "stream " + length + " unit 10 window 20 key 5;path a delay 9;path b delay 8;join b at 1 token 172;" + more;
    }

    private static void penalty() {
        says("II: SENT is EDGE, below the STREAM's length");
        begin(slow(21, ""));
        due("two", x.ticks(1), 2);
        due("its piece is sent on that one", x.ticks(1), 1);
        due("penalty", x.has(13), 1);
        keptRow(0, 1, 0, 0);
        due("on b", x.segment(2, 0), 1);
        due("first byte", x.segment(2, 2), 0);
        due("bytes", x.segment(2, 3), 10);
        due("SENT stays", x.has(4), 20);
        due("bytes in all", x.has(12), 30);
        due("it flies on a still", x.path(0, 5), 2);
        begin(slow(20, ""));
        due("all is sent: none", x.ticks(9), 2);
        due("kept", x.has(13), 0);
        says("II: half its CWND, 1000 at least");
        begin(slow(30, ""));
        pass(1);
        due("2000", x.path(0, 3), 2000);
        pass(1);
        due("1000", x.path(0, 3), 1000);
        due("b's", x.path(1, 3), 2000);
        pass(1);
        due("1000 at least", x.path(0, 3), 1000);
        due("kept", x.has(13), 2);
        says("II: there was no PENALTY in this TICK");
        begin(slow(30, ""));
        pass(1);
        due("one, though there is room for two", x.ticks(1), 1);
        due("one more", x.ticks(1), 1);
        says("II: there is such a PATH: CWND is full then");
        due("none", x.ticks(1), 0);
        due("kept", x.has(13), 2);
        says("II: a SEGMENT flies in which NEEDED is (the first sent)");
        keptRow(1, 1, 0, 0);
        says("II: its FAILED stays");
        due("failed", x.path(0, 4), 0);
    }

    private static void penaltyEdges() {
        says("II: but its own");
        begin("stream 30 unit 10 window 10 key 0;path a delay 9;");
        due("one, and room for one more", x.ticks(9), 1);
        due("kept", x.has(13), 0);
        says("II: a SEGMENT flies in which NEEDED is");
        // all is taken and answered, nothing is read: SENT, EDGE and NEEDED are 10
        begin("stream 30 unit 5 window 10 key 0;path a delay 1;path b delay 1;join b at 1 token 17;reads 0;");
        due("two, then one more of the first", x.ticks(2), 3);
        pass(10);
        due("needed", x.has(5), 10);
        due("none", x.ticks(30), 0);
        says("II: if there is no piece: one that is to be sent AGAIN goes first");
        begin(slow(30, "path c delay 1;"));
        pass(1);
        x.join(1, 172);
        x.join(2, 172);
        due("a penalty on c", x.ticks(1), 1);
        due("on c", x.segment(2, 0), 2);
        x.kill(0);
        due("two pieces, then one of c's", x.ticks(1), 3);
        due("again", x.segment(1, 2), 0);
        due("again", x.segment(2, 2), 10);
    }

    private static void penaltyPath() {
        says("II: such a PATH, by which picks is least, but its own");
        String four = "stream 30 unit 10 window 10 key 0;path a delay 9;path b delay 9;path c delay 9;path d delay 9;"
            + "join b at 1 token 17;join c at 1 token 17;join d at 1 token 17;";
        begin(four);
        pass(2);
        due("of like ones the first", x.segment(1, 0), 1);
        begin(four + "picks 0-path;");
        pass(2);
        due("the least", x.segment(1, 0), 3);
        begin(four + "picks if(path=0,0,if(path=2,1,2));");
        pass(2);
        due("its own is the least of all", x.segment(1, 0), 2);
        begin(four + "picks 0-path;");
        pass(1);
        x.join(3, 17);
        x.kill(3);
        pass(1);
        due("not DEAD", x.segment(1, 0), 2);
        says("II: a PENALTY, its SEGMENT may be lost, too");
        begin(four + "drops tick=1;");
        pass(2);
        due("sent", x.path(1, 6), 1);
        pass(9);
        due("refused", x.refusals(3), 0);
        due("taken by a", x.has(7), 10);
        says("II: a PENALTY in each TICK, the first sent in which NEEDED is");
        begin(four);
        pass(4);
        due("kept", x.has(13), 3);
        for (int k = 0; k < 3; k++) {
            keptRow(k, 1, 0, 0);
        }
        x.kill(0);
        due("its piece", x.has(11), 1);
        due("then b's is the first sent", x.ticks(1), 2);
        keptRow(4, 1, 1, 0);
    }

    // ---- Terms II: acts, draws, what is kept

    private static void termsOfActs() {
        lastForty();
        fortyOfTwo();
        draws();
        aheadWithoutDraws();
        manyCalls();
    }

    private static void lastForty() {
        says("II: KEPT, the last 40 are told");
        // in TICK 2 k - 1 the k-th fails, the first of two; the other's answer makes FAILED 0 and CWND 2000 again
        begin("stream 200 unit 1 window 99 key 0;path a delay 1;waits 1;");
        pass(78);
        due("39", x.has(13), 39);
        keptRow(0, 0, 0, 0);
        keptRow(38, 0, 0, 76);
        due("no more", x.kept(39, 0), NONE);
        pass(2);
        due("40", x.has(13), 40);
        keptRow(0, 0, 0, 0);
        keptRow(39, 0, 0, 78);
        due("no more", x.kept(40, 0), NONE);
        pass(2);
        due("40", x.has(13), 40);
        keptRow(0, 0, 0, 2);
        keptRow(1, 0, 0, 4);
        keptRow(39, 0, 0, 80);
        due("no more", x.kept(40, 0), NONE);
        pass(82);
        due("40", x.has(13), 40);
        keptRow(0, 0, 0, 84);
        keptRow(39, 0, 0, 162);
        x.kill(0);
        keptRow(0, 0, 0, 86);
        keptRow(39, 2, 0, 164);
        x.undo();
        keptRow(0, 0, 0, 84);
        keptRow(39, 0, 0, 162);
    }

    private static void fortyOfTwo() {
        says("II: KEPT, the last 40 are told, each as it was when what came behind it is undone");
        begin("stream 200 unit 1 window 99 key 0;path a delay 1;path b delay 1;path c delay 1;waits 1;");
        x.join(1, 17);
        x.kill(0);
        pass(78);
        due("40", x.has(13), 40);
        keptRow(0, 2, 0, 0);
        keptRow(1, 0, 1, 0);
        pass(2);
        keptRow(0, 0, 1, 0);
        keptRow(39, 0, 1, 78);
        x.join(2, 17);
        x.kill(2);
        keptRow(0, 0, 1, 2);
        keptRow(39, 2, 2, 80);
        x.undo();
        keptRow(0, 0, 1, 0);
        keptRow(39, 0, 1, 78);
    }

    private static void drawOnce(int seed, int loss, int lost, int next) {
        begin("stream 5 unit 5 window 10 key 0;path a delay 1;loss " + loss + ";");
        x.seed(seed);
        due("seed " + seed + ", loss " + loss, x.chance(1), lost);
        due("the seed", x.has(16), next);
        x.ticks(1);
        due("taken", x.has(7), lost == 0 ? 5 : 0);
    }

    private static void draws() {
        says("II: a DRAW of 100: below loss it is lost");
        // by 1 comes 18, by 42 comes 0, by 85 comes 1, by 119 comes 99
        drawOnce(1, 17, 0, 1103527590);
        drawOnce(1, 18, 0, 1103527590);
        drawOnce(1, 19, 1, 1103527590);
        drawOnce(42, 0, 0, 1250496027);
        drawOnce(42, 1, 1, 1250496027);
        drawOnce(85, 1, 0, 1457011306);
        drawOnce(85, 2, 1, 1457011306);
        drawOnce(119, 98, 0, 321823972);
        drawOnce(119, 99, 0, 321823972);
        drawOnce(119, 100, 1, 321823972);
        says("II: x (the seed) becomes (1103515245 x + 12345) mod 2 to the 31; floor(x / 64) mod m");
        drawOnce(0, 92, 0, 12345);
        drawOnce(0, 93, 1, 12345);
        drawOnce(HIGH, 0, 0, 1043980748);
        drawOnce(1 << 30, 0, 0, 1073754169);
        says("II: for each SEGMENT that is sent (by which drops holds, too), and counts as lost by that");
        begin(ONE + "drops all;loss 100;");
        due("both", x.chance(1), 2);
        due("two DRAWS", x.has(16), 377401575);
        begin(ONE + "drops all;loss 0;");
        due("none", x.chance(1), 0);
        due("two DRAWS", x.has(16), 377401575);
        begin(ONE + "drops from=0;loss 19;");
        due("the first", x.chance(1), 1);
        says("II: one that is sent AGAIN, and one sent for a PENALTY, too");
        begin("stream 30 unit 10 window 20 key 5;path a delay 9;path b delay 8;join b at 1 token 172;loss 100;");
        due("two", x.chance(1), 2);
        due("two DRAWS", x.has(16), 377401575);
        due("the penalty", x.chance(1), 1);
        due("penalty", x.has(13), 1);
        begin(ONE + "loss 100;waits 3;");
        due("two, one again, one again", x.chance(5), 3);
    }

    private static void aheadWithoutDraws() {
        says("III: AHEAD are TICKS as they come from now on without DRAWS");
        begin(ONE + "loss 100;");
        due("finish", x.finish(), 3);
        due("later", x.later(3, 1), 10);
        due("without", x.without(0), NONE);
        due("alone", x.alone(0), 3);
        due("window", x.window(3), 10);
        due("delays", x.delays(0), 1022);
        tellsRow(0, 5, 1, 5);
        due("the seed", x.has(16), 1);
        due("odds are by the seed", x.odds(0), 0);
        due("ticks, too", x.ticks(3), 2);
        due("needed", x.has(5), 10);
        due("the seed", x.has(16), 1);
    }

    private static void manyCalls() {
        says("an object is used for at most 512 calls");
        begin(TWO + "loss 50;");
        for (int k = 0; k < 95; k++) {
            x.ticks(1);
            x.chance(1);
            x.undo();
            x.seed(k);
            due("tick", x.has(3), k + 1);
        }
        due("the oldest went for what was undone", x.has(15), 19);
        for (int k = 0; k < 19; k++) {
            due("undo", x.undo(), true);
        }
        due("tick", x.has(3), 76);
        due("no more", x.undo(), false);
    }
}
