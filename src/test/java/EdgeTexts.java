/** The edges that Terms I names, of texts, their FAULTS and formulas, each under its sentence: at it, and on both sides of it. */
public final class EdgeTexts extends Edges {
    public static void main(String[] args) {
        termsOfTheText();
        termsOfFormulas();
        report();
    }

    // ---- Terms I: the text

    private static final String[] OWN_WORDS = ("stream unit window key path delay join at token loss drops picks reads waits "
        + "tick number from cwnd flying fails ready ahead if or and not all min max").split(" ");

    // Every kind of STATEMENT, PART, FACT and SIGN; its parts stand apart by one blank.
    private static final String WHOLE = "stream 200 unit 20 window 99 key 999 ; path north delay 9 ; path b delay 1 ; "
        + "join b at 99 token 999 ; loss 100 ; drops not [ tick + path * number - from / 2 % 3 > 1 or all and 1 = 2 ] ; "
        + "picks min ( delay , cwnd ) + ( flying ) ; reads if ( ready < ahead , 1 , max ( 2 , 3 ) ) ; waits fails";

    private static void termsOfTheText() {
        statements();
        numbers();
        digits();
        names();
        ownWords();
        blanks();
        firstStatement();
        faultOne();
        faultTwoThree();
        faultSix();
        firstAlong();
    }

    private static void statements() {
        says("I: { STATEMENT ; } (40 at most)");
        good(HEAD + "loss 3;".repeat(38), 39);
        good(HEAD + "loss 3;".repeat(39), 40);
        good(HEAD + "loss 3;".repeat(39) + " \n", 40);
        at(HEAD + "loss 3;".repeat(39) + "^loss 3;", 6);
        at(HEAD + "loss 3;".repeat(39) + " ^loss 3;loss 3;", 6);
        says("I: the 41st STATEMENT (whatever it is), at its first byte");
        String forty = HEAD + "loss 3;".repeat(39);
        for (String word : OWN_WORDS) {
            at(forty + "^" + word, 6);
        }
        at(forty + "^stream 10 unit 5 window 10 key 0;", 6);
        at(forty + "^path a delay 0;", 6);
        at(forty + "^other", 6);
        at(HEAD + "loss 3;".repeat(38) + "^other", 1);
        says("I: a text without a STATEMENT has FAULT 1 at its length");
        bad("", 1, 0);
        bad(" ", 1, 1);
        bad("\n", 1, 1);
        bad(" \n".repeat(800), 1, 1600);
    }

    private static void range(String before, int least, int most, String after) {
        int statements = (before + after).replaceAll("[^;]", "").length();
        good(before + least + after, statements);
        good(before + most + after, statements);
        bad(before + (most + 1) + after, 4, before.length());
        bad(before + "9999" + after, 4, before.length());
        if (least > 0) {
            bad(before + (least - 1) + after, 4, before.length());
            bad(before + "0" + after, 4, before.length());
        }
    }

    private static void numbers() {
        says("I: stream 1 .. 200 bytes");
        range("stream ", 1, 200, " unit 1 window 10 key 0;");
        says("I: unit 1 .. 20");
        range("stream 10 unit ", 1, 20, " window 10 key 0;");
        says("I: window 10 .. 99");
        range("stream 10 unit 5 window ", 10, 99, " key 0;");
        says("I: key 0 .. 999");
        range("stream 10 unit 5 window 10 key ", 0, 999, ";");
        says("I: delay 1 .. 9");
        range(HEAD + "path a delay ", 1, 9, ";");
        range(ONE + "path b delay ", 1, 9, ";");
        says("I: join at 0 .. 99");
        range(ONE + "path b delay 1;join b at ", 0, 99, " token 17;");
        says("I: token 0 .. 999");
        range(ONE + "path b delay 1;join b at 0 token ", 0, 999, ";");
        says("I: loss 0 .. 100");
        range(ONE + "loss ", 0, 100, ";");
        says("I: FAULT 4, a NUMBER that can't be: any of 1 to 4 digits can in a SUM");
        good(ONE + "picks 0+9999+0000;", 3);
        says("I: what these numbers are");
        begin("stream 200 unit 20 window 99 key 999;path a delay 9;");
        due("bytes", x.has(0), 200);
        due("edge", x.has(6), 99);
        due("delay", x.path(0, 0), 9);
        x.ticks(1);
        due("unit", x.segment(0, 3), 20);
    }

    private static void digits() {
        says("I: NUMBERS: 1 to 4 digits; a 5th digit at itself");
        good("stream 0010 unit 0005 window 0010 key 0000;path a delay 0001;", 2);
        due("bytes", x.has(0), 10);
        at("stream 0000^0 unit 5 window 10 key 0;", 1);
        at("stream 0001^0 unit 5 window 10 key 0;", 1);
        at("stream 9999^9 unit 5 window 10 key 0;", 1);
        at("stream 9999^99999", 1);
        at("stream 1234^5", 1);
        at(ONE + "picks 9999^9;", 1);
        at(ONE + "picks 0000^0;", 1);
        at(ONE + "loss 0010^0;", 1);
        good(ONE + "loss 0100;", 3);
        says("I: digits are 0 .. 9");
        at("stream ^/", 1);
        at("stream ^:", 1);
        good("stream 109 unit 9 window 90 key 0;", 1);
    }

    private static void names() {
        says("I: NAMES: 1 to 6 letters; a 7th letter at itself");
        good(HEAD + "path a delay 1;", 2);
        good(HEAD + "path abcdef delay 1;", 2);
        at(HEAD + "path abcdef^g delay 1;", 1);
        at(HEAD + "path abcdef^ghijklmn delay 1;", 1);
        at(HEAD + "path stream^s delay 1;", 1);
        at(HEAD + "path abcdef delay 1;join abcdef^g", 1);
        says("I: letters are a .. z");
        good(HEAD + "path az delay 1;path za delay 1;", 3);
        at(HEAD + "path ^`", 1);
        at(HEAD + "path ^{", 1);
        at(HEAD + "path ^A delay 1;", 1);
        at(HEAD + "path ^Z delay 1;", 1);
        at(HEAD + "path a^Z delay 1;", 1);
        at(HEAD + "path ^_", 1);
        says("I: unlike ones");
        good(HEAD + "path a delay 1;path aa delay 1;path ab delay 1;path b delay 1;", 5);
        good(HEAD + "path abcdef delay 1;path abcdeg delay 1;path bbcdef delay 1;path abcde delay 1;", 5);
    }

    private static void ownWords() {
        says("I: OWN WORDS, which no NAME is; an OWN WORD where a NAME must be");
        for (String word : OWN_WORDS) {
            at(HEAD + "path ^" + word + " delay 1;", 1);
            at(ONE + "join ^" + word + " at 0 token 17;", 1);
            String less = word.substring(0, word.length() - 1);
            good(HEAD + "path " + less + " delay 1;", 2);
            if (word.length() < 6) {
                good(HEAD + "path " + word + "s delay 1;", 2);
                good(HEAD + "path x" + word + " delay 1;", 2);
            }
        }
    }

    private static void blanks() {
        says("I: blanks (10, 32) are where one likes");
        for (int b = 0; b < 256; b++) {
            if (b == 10 || b == 32) {
                good("stream" + (char) b + "10 unit 5 window 10 key 0;", 1);
            } else {
                bad("stream" + (char) b + "10 unit 5 window 10 key 0;", 1, 6);
            }
        }
        good("\n \n" + (WHOLE + " ;").replace(" ", " \n\n ") + " \n", 9);
        good("stream 10 unit 5 window 10 key 0;path a delay 1;drops[1<2]and[2>1]or not(1)=(2);picks min(1,2)+3*4;", 4);
        says("I: words and numbers side by side need one");
        at("stream^10 unit 5 window 10 key 0;", 1);
        at("stream 10^unit 5 window 10 key 0;", 1);
        at("stream 10 unit^5 window 10 key 0;", 1);
        at("stream 10 unit 5^window 10 key 0;", 1);
        at("stream 10 unit 5 window^10 key 0;", 1);
        at("stream 10 unit 5 window 10^key 0;", 1);
        at("stream 10 unit 5 window 10 key^0;", 1);
        at(HEAD + "path a^1 delay 1;", 1);
        at(HEAD + "path a delay^1;", 1);
        at(ONE + "loss^1;", 1);
        at(ONE + "drops 1<2^or 2<1;", 1);
        at(ONE + "drops all or^1<2;", 1);
        at(ONE + "drops not^1<2;", 1);
        at(ONE + "picks^1;", 1);
        at(ONE + "waits 1^tick;", 1);
        at(ONE + "^patha delay 1;", 1);
    }

    private static void firstStatement() {
        says("I: stream: the first STATEMENT, and it alone");
        at("^path a delay 1;", 1);
        at("^loss 1;stream 10 unit 5 window 10 key 0;", 1);
        at("^drops all;", 1);
        at("^join a at 0 token 0;", 1);
        at(HEAD + "^stream 10 unit 5 window 10 key 0;", 1);
        at(ONE + "^stream 10 unit 5 window 10 key 0;", 1);
    }

    private static void faultOne() {
        String[] parts = WHOLE.split(" ");
        says("I: FAULT 1 at the text's length, if it ends too soon");
        StringBuilder text = new StringBuilder();
        for (int k = 0; k < parts.length; k++) {
            text.append(k == 0 ? "" : " ").append(parts[k]);
            if (!parts[k].equals(";")) {
                bad(text.toString(), 1, text.length());
                bad(text + " \n", 1, text.length() + 2);
            }
        }
        good(text + " ;", 9);
        says("I: FAULT 1, the first byte with which no STREAM goes on; a 7th letter, a 5th digit, whatever may stand there");
        text = new StringBuilder();
        for (int k = 0; k < parts.length; k++) {
            bad(text + "@ ;", 1, text.length());
            bad(text + ".", 1, text.length());
            bad(text + "abcdefg ;", 1, text.length() + 6);
            bad(text + "12345 ;", 1, text.length() + 4);
            text.append(parts[k]).append(' ');
        }
        says("I: words and numbers whole, at their first byte");
        at("^strea 10", 1);
        at("^streak 10", 1);
        at("^s", 1);
        at("stream 10 ^unita 5", 1);
        at("stream 10 ^uni", 1);
        at(HEAD + "^pat", 1);
        at(HEAD + "^1234", 1);
        at(ONE + "picks ^delayy;", 1);
        at(ONE + "drops ^nota;", 1);
        at(ONE + "drops 1<2 ^andd 1<2;", 1);
        at(ONE + "waits fails + ^path;", 1);
    }

    private static void faultTwoThree() {
        says("I: FAULT 2, a NAME that is there already, at its first byte");
        at(ONE + "path ^a delay 1;", 2);
        at(ONE + "path ^a", 2);
        at(ONE + "path ^a delay 0;", 2);
        at(ONE + "path b delay 1;path c delay 1;path ^c delay 1;", 2);
        at(ONE + "path b delay 1;path c delay 1;path ^b delay 1;", 2);
        at(HEAD + "path abcdef delay 1;path ^abcdef delay 1;", 2);
        good(HEAD + "path abcdef delay 1;path abcdeg delay 1;", 3);
        says("I: FAULT 3, a NAME that is none of a PATH, the first one's, or of one told so already, at its first byte");
        at(HEAD + "join ^a at 0 token 0;", 3);
        at(ONE + "join ^b at 0 token 0;", 3);
        at(ONE + "join ^a at 0 token 0;", 3);
        at(ONE + "join ^a", 3);
        at(ONE + "path b delay 1;join ^a at 0 token 0;", 3);
        good(ONE + "path b delay 1;join b at 0 token 0;", 4);
        at(ONE + "path b delay 1;join b at 0 token 0;join ^b at 0 token 0;", 3);
        at(ONE + "path b delay 1;join b at 99 token 999;join ^b at 0 token 0;", 3);
        good(ONE + "path b delay 1;path c delay 1;join c at 0 token 0;join b at 0 token 0;", 6);
        at(ONE + "path bb delay 1;join ^b at 0 token 0;", 3);
        says("I: told ahead of where they are asked");
        at(ONE + "join ^b at 0 token 0;path b delay 1;", 3);
    }

    private static void faultSix() {
        says("I: 4 PATHS; FAULT 6, one too many of a kind of STATEMENT, at its first byte");
        String three = ONE + "path b delay 1;path c delay 1;";
        good(three, 4);
        good(three + "path d delay 1;", 5);
        at(three + "path d delay 1;^path e delay 1;", 6);
        at(three + "path d delay 1; ^path", 6);
        at(three + "path d delay 1;^path a delay 1;", 6);
        at(three + "path d delay 1;^path abcdefg", 6);
        says("I: a JOIN of each PATH but the first one");
        good(three + "path d delay 1;join d at 0 token 0;join c at 0 token 0;join b at 0 token 0;", 8);
        says("I: drops TEST, picks SUM, reads SUM, waits SUM (one each)");
        String[] kinds = {"drops all;", "picks 1;", "reads 1;", "waits 1;"};
        for (String kind : kinds) {
            good(ONE + kind, 3);
            at(ONE + kind + "^" + kind, 6);
            at(ONE + kind + "loss 1;\n^" + kind.substring(0, 5), 6);
        }
        good(ONE + "drops all;picks 1;reads 1;waits 1;", 6);
        says("I: loss: the last one counts, 0 without");
        begin(ONE);
        due("without", x.odds(0), 100);
        begin(ONE + "loss 7;");
        due("one", x.odds(0), 93);
        begin(ONE + "loss 7;loss 0;loss 9;");
        due("the last", x.odds(0), 91);
        begin(ONE + "loss 7;loss 0;");
        due("the last", x.odds(0), 100);
    }

    private static void firstAlong() {
        says("I: FAULTS, the first along the text");
        at("stream ^0 unit 0 window 0 key 1000;", 4);
        at("stream 1 unit ^0 window 0 key 1000;", 4);
        at(HEAD + "path a delay ^0;path a delay 1;", 4);
        at(HEAD + "path a delay 1;path ^a delay 0;", 2);
        at(ONE + "path b delay 1;join b at ^100 token 1000;join b", 4);
        at(ONE + "loss ^101@", 4);
        at(ONE + "loss 100^@", 1);
        at(ONE + "path ^stream delay 1;@", 1);
        at(ONE + "picks 1;^picks @", 6);
    }

    // ---- Terms I: formulas

    // A SUM is told by how long it is waited, with 50 more so that it is 1 .. 99.
    private static void sum(String text, int want) {
        begin(ONE + "waits 50+(" + text + ");");
        due(text, x.path(0, 8), 50 + want);
    }

    private static void test(String text, boolean want) {
        begin(ONE + "waits if(" + text + ",7,8);");
        due(text, x.path(0, 8) == 7, want);
    }

    private static void termsOfFormulas() {
        wholeNumbers();
        limits();
        testSigns();
        depth();
        places();
        factsOfDrops();
        factsOfPicks();
        factsOfReadsAndWaits();
    }

    private static void wholeNumbers() {
        says("I: / gives the greatest whole number not above");
        sum("7/2", 3);
        sum("6/2", 3);
        sum("5/2", 2);
        sum("0/2", 0);
        sum("(0-1)/2", -1);
        sum("(0-2)/2", -1);
        sum("(0-3)/2", -2);
        sum("3/(0-2)", -2);
        sum("2/(0-2)", -1);
        sum("1/(0-2)", -1);
        sum("(0-3)/(0-2)", 1);
        sum("1/9999", 0);
        sum("(0-1)/9999", -1);
        says("I: % what is left (a less b times that)");
        sum("7%3", 1);
        sum("6%3", 0);
        sum("5%3", 2);
        sum("(0-1)%3", 2);
        sum("(0-3)%3", 0);
        sum("(0-4)%3", 2);
        sum("4%(0-3)", -2);
        sum("3%(0-3)", 0);
        sum("(0-4)%(0-3)", -1);
        says("I: by 0 both give 0");
        sum("7/0", 0);
        sum("7%0", 0);
        sum("(0-7)/0", 0);
        sum("(0-7)%(1-1)", 0);
        sum("0/0", 0);
        says("I: all from the left on");
        sum("9-4-3", 2);
        sum("9-4+3", 8);
        sum("40/4/2", 5);
        sum("7/2*2", 6);
        sum("7*2%4", 2);
        sum("1+2*3", 7);
        sum("(1+2)*3", 9);
        says("I: min, max, if (the first SUM where the TEST holds, else the second one)");
        sum("min(3,4)", 3);
        sum("min(4,3)", 3);
        sum("min(3,3)", 3);
        sum("max(3,4)", 4);
        sum("max(4,3)", 4);
        sum("min(0-1,1)", -1);
        sum("max(0-1,0-2)", -1);
        sum("if(1<2,3,4)", 3);
        sum("if(2<2,3,4)", 4);
    }

    private static void limits() {
        says("I: each result above 10 to the 6 is that");
        test("1000*1000>9999*100", true);
        test("1000*1000-1<1000*1000", true);
        test("1000*1000+0=1000*1000", true);
        test("1000*1000+1=1000*1000", true);
        test("1000*1000+9999=1000*1000", true);
        test("1001*1000=1000*1000", true);
        test("9999*9999=1000*1000", true);
        test("999*1001<1000*1000", true);
        test("9999*9999*9999*9999-9999*100=100", true);
        test("1000*1000-(0-1)=1000*1000", true);
        says("I: below -10 to the 6 likewise");
        test("0-1000*1000<0-9999*100", true);
        test("0-1000*1000+1>0-1000*1000", true);
        test("0-1000*1000-1=0-1000*1000", true);
        test("0-1000*1000-9999=0-1000*1000", true);
        test("(0-1001)*1000=0-1000*1000", true);
        test("(0-9999)*9999=0-1000*1000", true);
        test("(0-999)*1001>0-1000*1000", true);
        test("(0-1000)*(0-1001)=1000*1000", true);
        test("(0-1000*1000)/(0-1)=1000*1000", true);
    }

    private static void testSigns() {
        says("I: SIGN < or > or =");
        String[] signs = {"<", ">", "="};
        boolean[][] want = {{true, false, false}, {false, false, true}, {false, true, false}};
        for (int s = 0; s < 3; s++) {
            for (int b = 0; b < 3; b++) {
                test((b + 1) + signs[s] + "2", want[s][b]);
            }
        }
        says("I: or, and, not, [ ], all");
        String no = "1<1";
        String yes = "1=1";
        test(yes + " and " + yes, true);
        test(yes + " and " + no, false);
        test(no + " and " + yes, false);
        test(no + " or " + yes, true);
        test(yes + " or " + no, true);
        test(no + " or " + no, false);
        test("not " + yes, false);
        test("not " + no, true);
        test("not not " + yes, true);
        test("all", true);
        test("not all", false);
        test(yes + " or " + no + " and " + no, true);
        test("[" + yes + " or " + no + "] and " + no, false);
        test("not " + no + " and " + no, false);
        test("not [" + no + " and " + no + "]", true);
        test("not " + no + " or " + yes, true);
        test("not [" + no + " or " + yes + "]", false);
    }

    private static void depth() {
        says("I: FAULT 5, the 8th ( [ not that is open at once, at it");
        good(ONE + "picks ((((((1))))));", 3);
        good(ONE + "picks (((((((1)))))));", 3);
        at(ONE + "picks (((((((^(1))))))));", 5);
        at(ONE + "picks (((((((^(((", 5);
        good(ONE + "picks min(max(min(max(min(max(min(1,2),2),2),2),2),2),2);", 3);
        at(ONE + "picks min(max(min(max(min(max(min(max^(1,2),2),2),2),2),2),2),2);", 5);
        at(ONE + "picks min(1,max(1,min(1,max(1,min(1,max(1,min(1,max^(1", 5);
        good(ONE + "picks if(if(1<if(1<2,3,4),5,6)<7,if(1<2,8,9),10);", 3);
        good(ONE + "drops [[[[[[[1<2]]]]]]];", 3);
        at(ONE + "drops [[[[[[[^[1<2]]]]]]]];", 5);
        at(ONE + "drops [[[[[[[^(1)<2]]]]]]];", 5);
        at(ONE + "drops [[[[[[[^not 1<2]]]]]]];", 5);
        good(ONE + "drops not not not not not not not 1<2;", 3);
        at(ONE + "drops not not not not not not not ^not 1<2;", 5);
        at(ONE + "drops not not not not not not not ^[1<2];", 5);
        at(ONE + "drops not not not not not not not ^(1)<2;", 5);
        at(ONE + "drops not not not not not not not 1<^(2);", 5);
        at(ONE + "drops not[not[not[(^(1", 5);
        says("I: seven open at once, with as much ahead of each as can be");
        String full = "2";
        for (int k = 0; k < 7; k++) {
            full = "if(1<1 or 1=1 and 5=1+2*" + full + ",2,9)";
        }
        begin(ONE + "waits " + full + ";");
        due("waits", x.path(0, 8), 2);
        full = "2";
        for (int k = 0; k < 7; k++) {
            full = "if(1<1,9,1+1*" + full + "-1)";
        }
        begin(ONE + "waits " + full + ";");
        due("waits", x.path(0, 8), 2);
        says("I: not until its FACT ends");
        good(ONE + "drops not not not not not not not 1<2 and not not not not not not not 1<2;", 3);
        good(ONE + "drops not not not not not not not 1<2 or (1)<2;", 3);
        good(ONE + "drops not not not not not not not 1<2 or [1<2];", 3);
        at(ONE + "drops not [not not not not not 1<2 and not not not not not ^not 1<2];", 5);
        good(ONE + "drops not [not not not not not 1<2 and not not not not not 1<2];", 3);
        says("I: what is closed is open no more");
        good(ONE + "picks (((((((1)))))))+(((((((1)))))));", 3);
        good(ONE + "picks (((((((1))))+((((1)))))));", 3);
        at(ONE + "picks (((((((1))))+((((^(1)))))))));", 5);
        good(ONE + "picks (((((((1)))))));reads (((((((1)))))));drops [[[[[[[all]]]]]]];", 5);
        good(ONE + "picks if([[[[[[all]]]]]],((((((1)))))),((((((1)))))));", 3);
        at(ONE + "picks if([[[[[[^[all]]]]]]],1,1);", 5);
        at(ONE + "picks if(all,((((((^(1))))))),1);", 5);
        at(ONE + "picks if(all,1,((((((^(1))))))));", 5);
        good(ONE + "picks min(1,2)+max(1,2)+min(1,2)+max(1,2)+min(1,2)+max(1,2)+min(1,2)+max(1,2);", 3);
        good(ONE + "picks " + "if(1<2,1,2)+".repeat(8) + "(((((((1)))))));", 3);
        good(ONE + "picks min(1,2)+(((((((1)))))));", 3);
        at(ONE + "picks min(1,2)+(((((((^(1))))))));", 5);
        at(ONE + "picks if(1<2,1,2)+(((((((^(1))))))));", 5);
        says("I: what was open in a text that had a FAULT is not so in the next one");
        x = new PathStream();
        tell(ONE + "picks ((((((((1");
        due("fault", x.fault(0), 5);
        due("stream", tell(ONE + "picks (((((((1)))))));"), 3);
        tell(ONE + "drops [[[[[[[not");
        due("fault", x.fault(0), 5);
        due("stream", tell(ONE + "drops [[[[[[[1<2]]]]]]];"), 3);
        tell("other");
        due("a word was read last", tell(ONE), 2);
        tell("123");
        due("a number was read last", tell(ONE), 2);
        says("I: FAULT 1 goes where it cannot stand at all");
        at(ONE + "picks 1 ^((((((((", 1);
        at(ONE + "picks ^[1];", 1);
        at(ONE + "picks ^not;", 1);
    }

    private static void places() {
        says("I: PART: in drops, picks: path; in drops: number; from; in picks, waits: delay; cwnd; in picks: flying; "
            + "in waits: fails; in reads: ready; ahead");
        String[] kinds = {"drops ", "picks ", "reads ", "waits "};
        String[] words = {"tick 1111", "path 1100", "number 1000", "from 1000", "delay 0101", "cwnd 0101", "flying 0100",
            "fails 0001", "ready 0010", "ahead 0010"};
        for (String own : OWN_WORDS) {
            String can = "0000";
            for (String word : words) {
                can = word.startsWith(own + " ") ? word.substring(own.length() + 1) : can;
            }
            for (int k = 0; k < 4; k++) {
                String behind = k == 0 ? "=1;" : ";";
                if (can.charAt(k) == '1') {
                    good(ONE + kinds[k] + own + behind, 3);
                    good(ONE + kinds[k] + "min(1,if(2<" + own + ",3,4))" + behind, 3);
                } else if (!own.equals("min") && !own.equals("max") && !own.equals("if")) {
                    at(ONE + kinds[k] + "1+^" + own + behind, 1);
                    at(ONE + kinds[k] + "min(1,if(2<^" + own + ",3,4))" + behind, 1);
                }
            }
        }
    }

    // On a go 0 .. 9, on b 10 .. 19; which of the four SEGMENTS are taken.
    private static void drops(String test, String taken) {
        begin(PAIR + "drops " + test + ";");
        x.ticks(2);
        for (int k = 0; k < 4; k++) {
            due("drops " + test + ", byte " + 5 * k, x.octet(5 * k) > 0, taken.charAt(k) == '1');
        }
    }

    private static void factsOfDrops() {
        says("I: the SEGMENT's number on it (from 0 on)");
        drops("number=0", "0101");
        drops("number=1", "1010");
        drops("number=2", "1111");
        drops("number<1", "0101");
        says("I: the PATH's number");
        drops("path=0", "0011");
        drops("path=1", "1100");
        drops("path=2", "1111");
        says("I: its first byte");
        drops("from=0", "0111");
        drops("from=4", "1111");
        drops("from=5", "1011");
        drops("from>14", "1110");
        drops("from>15", "1111");
        says("II: a SEGMENT is lost, if the TEST of drops holds, by the TICK in which it is sent");
        drops("tick=0", "0000");
        drops("tick=1", "1111");
        drops("tick<1", "0000");
        drops("all", "0000");
        drops("not all", "1111");
    }

    private static void picks(String sum, String paths) {
        begin(PAIR + "picks " + sum + ";");
        x.ticks(1);
        for (int k = 0; k < 4; k++) {
            due("picks " + sum + ", " + k, x.segment(k, 0), paths.charAt(k) - '0');
        }
    }

    private static void factsOfPicks() {
        says("II: by which the SUM of picks is least, of like ones the first");
        picks("0", "0011");
        picks("path", "0011");
        picks("0-path", "1100");
        picks("1-path*2", "1100");
        picks("if(path=0,2,1)", "1100");
        picks("if(path=0,2,2)", "0011");
        picks("if(path=0,2,3)", "0011");
        picks("0-9999*9999-path", "0011");
        says("I: how many SEGMENTS fly on it");
        picks("flying", "0101");
        picks("flying*2-path", "1010");
        picks("flying*2-path*2", "1010");
        picks("flying*2-path*3", "1100");
        picks("flying*2-path*4", "1100");
        says("I: the TICK");
        picks("if(tick=0,0-path,path)", "1100");
        picks("if(tick=1,0-path,path)", "0011");
        says("I: its delay (without picks: delay)");
        begin("stream 20 unit 5 window 20 key 0;path a delay 2;path b delay 1;join b at 0 token 17;");
        x.ticks(1);
        due("the least", x.segment(0, 0), 1);
        due("then the other", x.segment(2, 0), 0);
        begin("stream 20 unit 5 window 20 key 0;path a delay 2;path b delay 1;join b at 0 token 17;picks 0-delay;");
        x.ticks(1);
        due("the most", x.segment(0, 0), 0);
        due("then the other", x.segment(2, 0), 1);
        begin("stream 20 unit 5 window 20 key 0;path a delay 1;path b delay 2;join b at 0 token 17;picks 0-delay;");
        x.ticks(1);
        due("the most", x.segment(0, 0), 1);
        says("I: its CWND");
        // behind two answers the first has 2485, the second 2000 still
        String uneven = "stream 30 unit 5 window 10 key 0;path a delay 1;path b delay 1;join b at 2 token 17;picks ";
        begin(uneven + "if(tick=0,path,cwnd);");
        x.ticks(3);
        due("cwnd", x.path(0, 3), 2485);
        due("the least", x.segment(0, 0), 1);
        begin(uneven + "if(tick=0,path,0-cwnd);");
        x.ticks(3);
        due("the most", x.segment(0, 0), 0);
        says("II: a PENALTY: half its CWND: what is not whole falls away");
        due("half of 2485", x.path(0, 3), 1242);
    }

    private static void factsOfReadsAndWaits() {
        says("I: how many bytes can be read, how many are taken behind them");
        String hole = "stream 15 unit 5 window 15 key 0;path a delay 1;path b delay 1;join b at 0 token 17;drops tick=0 and from=5;";
        begin(hole + "reads ready*10+ahead-53;");
        x.ticks(2);
        due("five and five: two", x.has(8), 2);
        due("taken", x.has(7), 10);
        begin(hole + "reads if(ahead=5 and ready=5,5,if(ahead=5 and ready=0,9,0));");
        x.ticks(3);
        due("the five behind the hole cannot be read", x.has(8), 5);
        begin(ONE + "reads if(ahead=0 and ready=10,4,if(ahead=0 and ready=6,1,0));");
        x.ticks(2);
        due("ten and none", x.has(8), 4);
        x.ticks(1);
        due("six and none", x.has(8), 5);
        says("I: how often it has FAILED");
        begin(ONE + "drops all;waits 5+fails*10;");
        due("never", x.path(0, 8), 5);
        x.ticks(6);
        due("once", x.path(0, 8), 15);
        says("I: the PATH's delay, its CWND");
        begin(ONE + "path b delay 9;waits delay*10+cwnd/1000;");
        due("of one that is not joined", x.path(1, 8), 90);
        x.join(1, 17);
        due("of one that is", x.path(1, 8), 92);
        due("the other", x.path(0, 8), 12);
    }
}
