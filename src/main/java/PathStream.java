/**
 * One byte stream over several paths, told as a text: the promises stand in ../shared/DOC.md.
 * Words in capitals in the comments are that document's.
 */
public final class PathStream {
    public static final int NONE = -1;

    private static final int TAPE_ROOM = 1600;
    private static final int FEED_BYTES = 20;
    private static final int MOST_PATHS = 4;
    private static final int MOST_BYTES = 200;
    private static final int WIDEST_WINDOW = 99;
    private static final int LAST_TICK = 999;
    private static final int MOST_TICKS = 100;
    private static final int MOST_AHEAD = 200;
    private static final int LONGEST_DELAY = 9;
    private static final int MOST_TOKEN = 999;
    private static final int MOST_ACTS = 20;
    private static final int MET_BYTES = 3;
    private static final int MOST_MET = 16;
    private static final int MET_TICKS = 60;
    private static final int ALL_ROWS = 100;

    private static final int REFUSED_TAPE = 0;
    private static final int REFUSED_STREAM = 1;
    private static final int REFUSED_TICKS = 2;
    private static final int REFUSED_PATH = 3;
    private static final int REFUSED_UNDO = 4;
    private static final int REFUSED_NUMBERS = 5;

    private final int[] tape = new int[TAPE_ROOM];
    private int tapeLength;
    private final int[] refused = new int[6];
    private final Draws draws = new Draws();
    private boolean told;
    private Plan plan = new Plan();
    // A text with a FAULT must leave all as it is, so it is read into this one first.
    private Plan spare = new Plan();
    private final TextReader reader = new TextReader(tape, spare);
    private final World now = new World(plan);
    private final World trial = new World(plan);
    private final World[] before = new World[MOST_ACTS];
    private int nextAct;
    private int actCount;
    private final int[] met = new int[MET_BYTES * MOST_MET];
    private int metRows;
    // By delay: NEEDED and READ behind each number of TICKS AHEAD.
    private final int[][] foreseen = new int[LONGEST_DELAY + 1][2 * (MET_TICKS + 1)];

    public PathStream() {
    }

    // ---- the tape

    public int feed(int a, int b, int c, int d, int e) {
        if (tapeLength + FEED_BYTES > TAPE_ROOM) {
            return refuse(REFUSED_TAPE);
        }
        putNumber(a);
        putNumber(b);
        putNumber(c);
        putNumber(d);
        putNumber(e);
        return tapeLength;
    }

    private void putNumber(int number) {
        for (int shift = 24; shift >= 0 && tapeLength < TAPE_ROOM; shift -= 8) {
            tape[tapeLength] = (number >> shift) & 255;
            tapeLength++;
        }
    }

    public boolean end(int n) {
        if (n < 0 || n > tapeLength) {
            refused[REFUSED_TAPE]++;
            return false;
        }
        tapeLength = n;
        return true;
    }

    public int stream() {
        reader.readText(tapeLength, spare);
        tapeLength = 0;
        if (reader.faultKind != 0) {
            return refuse(REFUSED_STREAM);
        }
        Plan read = spare;
        spare = plan;
        plan = read;
        told = true;
        now.begin(plan);
        metRows = 0;
        actCount = 0;
        return plan.statements;
    }

    public int fault(int what) {
        if (what == 0) {
            return reader.faultKind;
        }
        return what == 1 && reader.faultKind != 0 ? reader.faultPlace : NONE;
    }

    private int refuse(int kind) {
        refused[kind]++;
        return NONE;
    }

    // ---- what there is

    public int has(int what) {
        if (what == 16) {
            return draws.x;
        }
        if (what < 0 || what > 16) {
            return NONE;
        }
        return told ? countOf(what) : 0;
    }

    private int countOf(int what) {
        switch (what) {
            case 0: return plan.length;
            case 1: return plan.paths;
            case 2: return now.alive();
            case 3: return now.tick;
            case 4: return now.sent;
            case 5: return now.needed;
            case 6: return now.edge;
            case 7: return now.receiver.taken;
            case 8: return now.receiver.read;
            case 9: return now.flying();
            case 10: return now.answers.count;
            case 11: return now.again.countFrom(now.needed);
            case 12: return now.sentBytes;
            case 13: return now.log.count;
            case 14: return metRows;
            default: return actCount;
        }
    }

    private boolean isPath(int path) {
        return told && path >= 0 && path < plan.paths;
    }

    public int letter(int path, int k) {
        if (!isPath(path) || k < 0 || k >= TextReader.NAME_LETTERS) {
            return NONE;
        }
        return TextReader.letterOf(plan.names[path], k);
    }

    public int path(int path, int what) {
        if (!isPath(path)) {
            return NONE;
        }
        Route route = now.routes[path];
        switch (what) {
            case 0: return route.delay;
            case 1: return route.joined ? 1 : 0;
            case 2: return route.dead ? 1 : 0;
            case 3: return route.cwnd;
            case 4: return route.failed;
            case 5: return route.flying;
            case 6: return route.sent;
            case 7: return route.spoiled ? 1 : 0;
            case 8: return now.waitOn(path);
            default: return NONE;
        }
    }

    public int segment(int k, int what) {
        if (!told) {
            return NONE;
        }
        Flight flight = now.flight;
        int row = flight.flyingRow(k);
        if (row == NONE) {
            return NONE;
        }
        switch (what) {
            case 0: return flight.path[row];
            case 1: return flight.number[row];
            case 2: return flight.first[row];
            case 3: return flight.size[row];
            case 4: return flight.sentAt[row];
            case 5: return plan.sumOf(flight.first[row], flight.size[row]);
            default: return NONE;
        }
    }

    public int octet(int k) {
        if (!told || k < 0 || k >= plan.length) {
            return NONE;
        }
        if (k < now.receiver.read) {
            return 2;
        }
        return now.receiver.has[k];
    }

    public int refusals(int cause) {
        if (cause < 0 || cause > 3) {
            return NONE;
        }
        return told ? now.receiver.refused[cause] : 0;
    }

    // ---- ahead

    public int later(int n, int what) {
        if (n < 0 || n > MOST_AHEAD || !canGo(n) || what < 0 || what > 4) {
            return NONE;
        }
        trial.copyFrom(now);
        for (int k = 0; k < n; k++) {
            trial.step(null);
        }
        switch (what) {
            case 0: return trial.sent;
            case 1: return trial.needed;
            case 2: return trial.receiver.read;
            case 3: return trial.flying();
            default: return trial.sentBytes;
        }
    }

    private boolean canGo(int n) {
        return told && now.tick + n <= LAST_TICK;
    }

    public int finish() {
        if (!told) {
            return NONE;
        }
        trial.copyFrom(now);
        return ticksToFinish(MOST_AHEAD);
    }

    private int ticksToFinish(int most) {
        for (int n = 0; n <= most; n++) {
            if (trial.isFinished()) {
                return n;
            }
            if (n == most || trial.tick >= LAST_TICK) {
                return NONE;
            }
            trial.step(null);
        }
        return NONE;
    }

    public int without(int path) {
        if (!isPath(path)) {
            return NONE;
        }
        trial.copyFrom(now);
        trial.bury(path);
        return ticksToFinish(MOST_AHEAD);
    }

    public int alone(int path) {
        if (!isPath(path)) {
            return NONE;
        }
        trial.copyFrom(now);
        for (int other = 0; other < plan.paths; other++) {
            if (other != path) {
                trial.bury(other);
            }
        }
        return ticksToFinish(MOST_AHEAD);
    }

    public int window(int n) {
        if (n < 1 || n > MOST_AHEAD || !canGo(n)) {
            return NONE;
        }
        for (int wide = plan.unit; wide <= WIDEST_WINDOW; wide++) {
            trial.copyFrom(now);
            trial.receiver.window = wide;
            if (ticksToFinish(n) != NONE) {
                return wide;
            }
        }
        return NONE;
    }

    public int odds(int what) {
        if (what < 0 || what > 1 || !canGo(1)) {
            return NONE;
        }
        trial.copyFrom(now);
        trial.step(null);
        if (trial.sentNow == 0) {
            return NONE;
        }
        if (what == 1) {
            return ALL_ROWS;
        }
        return trial.firstDropped ? 0 : ALL_ROWS - plan.loss;
    }

    // ---- how slow

    public int meet() {
        int length = tapeLength;
        tapeLength = 0;
        if (!told || !isMet(length)) {
            return refuse(REFUSED_NUMBERS);
        }
        System.arraycopy(tape, 0, met, 0, length);
        metRows = length / MET_BYTES;
        return metRows;
    }

    private boolean isMet(int length) {
        if (length == 0 || length > MET_BYTES * MOST_MET || length % MET_BYTES != 0) {
            return false;
        }
        for (int k = 0; k < length; k += MET_BYTES) {
            if (tape[k] > MET_TICKS || tape[k + 1] > 1 || tape[k + 2] > MOST_BYTES) {
                return false;
            }
        }
        return true;
    }

    public int delays(int path) {
        if (!isPath(path)) {
            return NONE;
        }
        int come = ticksComing(lastMetTick());
        foresee(path, come);
        return delaysLeft(come);
    }

    private int ticksComing(int most) {
        return Math.min(most, LAST_TICK - now.tick);
    }

    private int lastMetTick() {
        int last = 0;
        for (int row = 0; row < metRows; row++) {
            last = Math.max(last, met[MET_BYTES * row]);
        }
        return last;
    }

    private void foresee(int path, int come) {
        for (int delay = 1; delay <= LONGEST_DELAY; delay++) {
            int[] row = foreseen[delay];
            trial.copyFrom(now);
            trial.routes[path].delay = delay;
            for (int n = 0; n <= come && n <= MET_TICKS; n++) {
                if (n > 0) {
                    trial.step(null);
                }
                row[2 * n] = trial.needed;
                row[2 * n + 1] = trial.receiver.read;
            }
        }
    }

    private int delaysLeft(int come) {
        int bits = 0;
        for (int delay = 1; delay <= LONGEST_DELAY; delay++) {
            if (fitsMet(foreseen[delay], come)) {
                bits |= 1 << delay;
            }
        }
        return bits;
    }

    private boolean fitsMet(int[] row, int come) {
        for (int k = 0; k < MET_BYTES * metRows; k += MET_BYTES) {
            if (met[k] > come || row[2 * met[k] + met[k + 1]] != met[k + 2]) {
                return false;
            }
        }
        return true;
    }

    public int tells(int path, int what) {
        if (!isPath(path) || what < 0 || what > 2 || now.tick >= LAST_TICK) {
            return NONE;
        }
        int come = ticksComing(MET_TICKS);
        foresee(path, come);
        int bits = delaysLeft(come);
        if (bits == 0) {
            return NONE;
        }
        int best = 2;
        int fewest = mostAlike(bits, best);
        for (int place = 3; place < 2 * (come + 1); place++) {
            int most = mostAlike(bits, place);
            if (most < fewest) {
                fewest = most;
                best = place;
            }
        }
        switch (what) {
            case 0: return best / 2;
            case 1: return best % 2;
            default: return fewest;
        }
    }

    // How many of these delays are left at the most, whatever number stands at this place.
    private int mostAlike(int bits, int place) {
        int most = 0;
        for (int delay = 1; delay <= LONGEST_DELAY; delay++) {
            int alike = 0;
            for (int other = 1; other <= LONGEST_DELAY; other++) {
                boolean left = (bits >> delay & bits >> other & 1) == 1;
                if (left && foreseen[delay][place] == foreseen[other][place]) {
                    alike++;
                }
            }
            most = Math.max(most, alike);
        }
        return most;
    }

    // ---- acts

    public int ticks(int n) {
        if (n < 1 || n > MOST_TICKS || !canGo(n)) {
            return refuse(REFUSED_TICKS);
        }
        beginAct();
        int count = 0;
        for (int k = 0; k < n; k++) {
            now.step(null);
            count += now.sentNow;
        }
        return count;
    }

    public int chance(int n) {
        if (n < 1 || n > MOST_TICKS || !canGo(n)) {
            return refuse(REFUSED_TICKS);
        }
        beginAct();
        int count = 0;
        for (int k = 0; k < n; k++) {
            now.step(draws);
            count += now.lostNow;
        }
        return count;
    }

    private void beginAct() {
        if (before[nextAct] == null) {
            before[nextAct] = new World(plan);
        }
        before[nextAct].copyFrom(now);
        nextAct = (nextAct + 1) % MOST_ACTS;
        actCount = Math.min(actCount + 1, MOST_ACTS);
    }

    public boolean join(int path, int token) {
        if (!isPath(path) || token < 0 || token > MOST_TOKEN || !now.routes[path].isNew()) {
            return refusePath();
        }
        beginAct();
        return now.tryToken(path, token);
    }

    private boolean refusePath() {
        refused[REFUSED_PATH]++;
        return false;
    }

    public boolean kill(int path) {
        if (!isPath(path) || !now.routes[path].isAlive()) {
            return refusePath();
        }
        beginAct();
        now.bury(path);
        return true;
    }

    public boolean spoil(int path) {
        if (!isPath(path) || !now.routes[path].isAlive() || now.routes[path].spoiled) {
            return refusePath();
        }
        beginAct();
        now.routes[path].spoiled = true;
        return true;
    }

    public boolean undo() {
        int last = (nextAct + MOST_ACTS - 1) % MOST_ACTS;
        if (actCount == 0 || before[last] == null) {
            refused[REFUSED_UNDO]++;
            return false;
        }
        now.copyFrom(before[last]);
        nextAct = last;
        actCount--;
        return true;
    }

    public boolean seed(int seed) {
        if (seed < 0) {
            refused[REFUSED_NUMBERS]++;
            return false;
        }
        draws.x = seed;
        return true;
    }

    public int kept(int k, int what) {
        if (!told || k < 0 || k >= now.log.count) {
            return NONE;
        }
        int row = now.log.rowOf(k);
        switch (what) {
            case 0: return now.log.kind[row];
            case 1: return now.log.path[row];
            case 2: return now.log.value[row];
            default: return NONE;
        }
    }

    public int status(int what) {
        return what < 0 || what > REFUSED_NUMBERS ? NONE : refused[what];
    }

    /** The seed and its DRAWS. */
    private static final class Draws {
        int x = 1;

        int drawOf(int m) {
            x = (int) ((1103515245L * x + 12345L) & 0x7fffffffL);
            return m > 0 ? x / 64 % m : 0;
        }
    }

    /** What the text of a STREAM tells. */
    private static final class Plan {
        int statements;
        int length;
        int unit;
        int window;
        int key;
        int loss;
        int paths;
        final int[] names = new int[MOST_PATHS];
        final int[] delay = new int[MOST_PATHS];
        // NONE where no JOIN is told.
        final int[] joinTick = new int[MOST_PATHS];
        final int[] joinToken = new int[MOST_PATHS];
        final Formula drops = new Formula();
        final Formula picks = new Formula();
        final Formula reads = new Formula();
        final Formula waits = new Formula();

        void clear() {
            statements = 0;
            length = 0;
            loss = 0;
            paths = 0;
            for (int path = 0; path < MOST_PATHS; path++) {
                joinTick[path] = NONE;
            }
            drops.length = 0;
            picks.length = 0;
            reads.length = 0;
            waits.length = 0;
        }

        int pathNamed(int name) {
            for (int path = 0; path < paths; path++) {
                if (names[path] == name) {
                    return path;
                }
            }
            return NONE;
        }

        int rightToken() {
            return (31 * key + 17) % 1000;
        }

        int sumOf(int first, int size) {
            int sum = 0;
            for (int k = first; k < first + size; k++) {
                sum += (k * k + 7 * k + key) % 251;
            }
            return sum % 251;
        }
    }

    /** A SUM or a TEST, with each sign behind what it joins, so that a stack is all it takes. */
    private static final class Formula {
        static final int NUMBER = 0;
        static final int FACT = 1;
        static final int NOT = 2;
        static final int IF = 3;
        static final int ADD = 4;
        static final int LESS_BY = 5;
        static final int TIMES = 6;
        static final int DIVIDE = 7;
        static final int REST = 8;
        static final int MIN = 9;
        static final int MAX = 10;
        static final int BELOW = 11;
        static final int ABOVE = 12;
        static final int SAME = 13;
        static final int AND = 14;
        static final int OR = 15;

        static final int TICK = 0;
        static final int PATH = 1;
        static final int SEGMENT = 2;
        static final int FROM = 3;
        static final int DELAY = 4;
        static final int CWND = 5;
        static final int FLYING = 6;
        static final int FAILS = 7;
        static final int READY = 8;
        static final int AHEAD = 9;
        static final int FACTS = 10;

        private static final long LIMIT = 1000000L;
        // Seven open signs hold back at most seven values each.
        private static final int STACK_ROOM = 96;
        private static final int SHIFT = 16;

        private final int[] code = new int[TAPE_ROOM];
        private final int[] stack = new int[STACK_ROOM];
        int length;

        boolean isTold() {
            return length > 0;
        }

        void put(int sign, int value) {
            if (length < TAPE_ROOM) {
                code[length] = sign << SHIFT | value;
                length++;
            }
        }

        int valueBy(int[] facts) {
            int top = 0;
            for (int k = 0; k < length; k++) {
                int sign = code[k] >> SHIFT;
                int value = code[k] & 0xffff;
                if (sign == NUMBER || sign == FACT) {
                    if (top >= STACK_ROOM) {
                        return 0;
                    }
                    stack[top] = sign == NUMBER ? value : facts[value];
                    top++;
                } else if (sign == NOT) {
                    if (top < 1) {
                        return 0;
                    }
                    stack[top - 1] = 1 - stack[top - 1];
                } else if (sign == IF) {
                    if (top < 3) {
                        return 0;
                    }
                    top -= 2;
                    stack[top - 1] = stack[top - 1] != 0 ? stack[top] : stack[top + 1];
                } else {
                    if (top < 2) {
                        return 0;
                    }
                    top--;
                    stack[top - 1] = joinedBy(sign, stack[top - 1], stack[top]);
                }
            }
            return top > 0 ? stack[top - 1] : 0;
        }

        private static int joinedBy(int sign, int a, int b) {
            long result = 0;
            switch (sign) {
                case ADD: result = (long) a + b; break;
                case LESS_BY: result = (long) a - b; break;
                case TIMES: result = (long) a * b; break;
                case DIVIDE: result = b == 0 ? 0 : Math.floorDiv(a, b); break;
                case REST: result = b == 0 ? 0 : Math.floorMod(a, b); break;
                case MIN: result = a < b ? a : b; break;
                case MAX: result = a > b ? a : b; break;
                case BELOW: result = a < b ? 1 : 0; break;
                case ABOVE: result = a > b ? 1 : 0; break;
                case SAME: result = a == b ? 1 : 0; break;
                case AND: result = a & b; break;
                default: result = a | b; break;
            }
            return (int) (result > LIMIT ? LIMIT : result < -LIMIT ? -LIMIT : result);
        }
    }

    /** Reads the text of a STREAM into a Plan, or finds its first FAULT. */
    private static final class TextReader {
        static final int NAME_LETTERS = 6;
        private static final int LETTER_BITS = 5;
        private static final int NUMBER_DIGITS = 4;
        private static final int MOST_NUMBER = 9999;
        private static final int MOST_STATEMENTS = 40;
        private static final int MOST_OPEN = 7;

        private static final int END = 0;
        private static final int WORD = 1;
        private static final int NUMBER = 2;
        private static final int SIGN = 3;
        // What can stand nowhere: its FAULT is not always at its first byte.
        private static final int BROKEN = 4;

        private static final int CANNOT_STAND = 1;
        private static final int NAME_THERE = 2;
        private static final int NAME_WRONG = 3;
        private static final int BAD_NUMBER = 4;
        private static final int TOO_DEEP = 5;
        private static final int TOO_MANY = 6;

        private static final String OWN_WORDS = "stream unit window key path delay join at token loss drops picks reads waits tick number from cwnd flying fails ready ahead if or and not all min max ";
        private static final int STREAM = 0;
        private static final int UNIT = 1;
        private static final int WINDOW = 2;
        private static final int KEY = 3;
        private static final int PATH = 4;
        private static final int DELAY = 5;
        private static final int JOIN = 6;
        private static final int AT = 7;
        private static final int TOKEN = 8;
        private static final int LOSS = 9;
        private static final int DROPS = 10;
        private static final int PICKS = 11;
        private static final int READS = 12;
        private static final int WAITS = 13;
        private static final int TICK = 14;
        private static final int SEGMENT = 15;
        private static final int FROM = 16;
        private static final int CWND = 17;
        private static final int FLYING = 18;
        private static final int FAILS = 19;
        private static final int READY = 20;
        private static final int AHEAD = 21;
        private static final int IF = 22;
        private static final int OR = 23;
        private static final int AND = 24;
        private static final int NOT = 25;
        private static final int ALL = 26;
        private static final int MIN = 27;
        private static final int MAX = 28;
        private static final int WORDS = 29;

        private final int[] ownWords = new int[WORDS];
        int faultKind;
        int faultPlace;
        private final int[] text;
        private int length;
        private int at;
        private Plan plan;
        private Formula formula;
        // The STATEMENT whose formula is read: it says which facts can stand in it.
        private int inside;
        private int open;
        // What was read last: its kind, first byte, FAULT's place, and value (a packed word, a number, a sign).
        private int kind;
        private int start;
        private int brokenAt;
        private int value;
        private int word;

        TextReader(int[] tape, Plan target) {
            text = tape;
            plan = target;
            formula = target.drops;
            int packed = 0;
            int letters = 0;
            int words = 0;
            for (int k = 0; k < OWN_WORDS.length() && words < WORDS; k++) {
                char c = OWN_WORDS.charAt(k);
                if (c == ' ') {
                    ownWords[words] = packed;
                    words++;
                    packed = 0;
                    letters = 0;
                } else {
                    packed |= c - 'a' + 1 << LETTER_BITS * letters;
                    letters++;
                }
            }
        }

        static int letterOf(int packed, int k) {
            return packed >> LETTER_BITS * k & 31;
        }

        void readText(int tapeLength, Plan target) {
            length = tapeLength;
            at = 0;
            plan = target;
            open = 0;
            faultKind = 0;
            faultPlace = NONE;
            kind = END;
            plan.clear();
            advance();
            for (int k = 0; k <= MOST_STATEMENTS && faultKind == 0; k++) {
                if (kind == END && k > 0) {
                    return;
                }
                readStatement(k);
                expectSign(';');
                plan.statements++;
            }
        }

        // Only the first FAULT counts, so whatever is read behind it does no harm.
        private void blame(int fault, int place) {
            if (faultKind == 0) {
                faultKind = fault;
                faultPlace = place;
            }
        }

        private void blameHere() {
            blame(CANNOT_STAND, kind == BROKEN ? brokenAt : start);
        }

        private void advance() {
            boolean needsBlank = kind == WORD || kind == NUMBER;
            int behind = at;
            while (at < length && (text[at] == 32 || text[at] == 10)) {
                at++;
            }
            start = at;
            if (at >= length) {
                kind = END;
            } else if (isLetter(at)) {
                takeWord();
            } else if (isDigit(at)) {
                takeNumber();
            } else {
                kind = SIGN;
                value = text[at];
                at++;
            }
            if (needsBlank && start == behind && kind != END && kind != SIGN) {
                kind = BROKEN;
                brokenAt = start;
            }
        }

        private boolean isLetter(int place) {
            return place < length && text[place] >= 'a' && text[place] <= 'z';
        }

        private boolean isDigit(int place) {
            return place < length && text[place] >= '0' && text[place] <= '9';
        }

        private void takeWord() {
            int packed = 0;
            int letters = 0;
            for (; letters < NAME_LETTERS && isLetter(at); letters++) {
                packed |= text[at] - 'a' + 1 << LETTER_BITS * letters;
                at++;
            }
            kind = isLetter(at) ? BROKEN : WORD;
            brokenAt = at;
            value = packed;
            word = NONE;
            for (int k = 0; k < WORDS; k++) {
                if (ownWords[k] == packed) {
                    word = k;
                }
            }
        }

        private void takeNumber() {
            value = 0;
            for (int digits = 0; digits < NUMBER_DIGITS && isDigit(at); digits++) {
                value = 10 * value + text[at] - '0';
                at++;
            }
            kind = isDigit(at) ? BROKEN : NUMBER;
            brokenAt = at;
        }

        private boolean isWord(int own) {
            return faultKind == 0 && kind == WORD && word == own;
        }

        private boolean isSign(int sign) {
            return faultKind == 0 && kind == SIGN && value == sign;
        }

        private void expectWord(int own) {
            if (isWord(own)) {
                advance();
            } else {
                blameHere();
            }
        }

        private void expectSign(int sign) {
            if (isSign(sign)) {
                advance();
            } else {
                blameHere();
            }
        }

        private int expectNumber(int least, int most) {
            if (faultKind != 0 || kind != NUMBER) {
                blameHere();
                return 0;
            }
            int number = value;
            if (number < least || number > most) {
                blame(BAD_NUMBER, start);
                return 0;
            }
            advance();
            return number;
        }

        private void readStatement(int k) {
            if (k == 0) {
                readStream();
            } else if (k >= MOST_STATEMENTS) {
                blame(TOO_MANY, start);
            } else if (isWord(PATH)) {
                readPath();
            } else if (isWord(JOIN)) {
                readJoin();
            } else if (isWord(LOSS)) {
                advance();
                plan.loss = expectNumber(0, 100);
            } else if (isWord(DROPS)) {
                readFormula(plan.drops);
            } else if (isWord(PICKS)) {
                readFormula(plan.picks);
            } else if (isWord(READS)) {
                readFormula(plan.reads);
            } else if (isWord(WAITS)) {
                readFormula(plan.waits);
            } else {
                blameHere();
            }
        }

        private void readStream() {
            expectWord(STREAM);
            plan.length = expectNumber(1, MOST_BYTES);
            expectWord(UNIT);
            plan.unit = expectNumber(1, 20);
            expectWord(WINDOW);
            plan.window = expectNumber(10, WIDEST_WINDOW);
            expectWord(KEY);
            plan.key = expectNumber(0, 999);
        }

        private void readPath() {
            if (plan.paths >= MOST_PATHS) {
                blame(TOO_MANY, start);
                return;
            }
            advance();
            int name = value;
            int place = start;
            expectName();
            if (plan.pathNamed(name) != NONE) {
                blame(NAME_THERE, place);
            }
            expectWord(DELAY);
            plan.names[plan.paths] = name;
            plan.delay[plan.paths] = expectNumber(1, LONGEST_DELAY);
            plan.paths++;
        }

        private void expectName() {
            if (isWord(NONE)) {
                advance();
            } else {
                blameHere();
            }
        }

        private void readJoin() {
            advance();
            int path = plan.pathNamed(value);
            int place = start;
            expectName();
            if (path <= 0 || plan.joinTick[path] != NONE) {
                blame(NAME_WRONG, place);
                return;
            }
            expectWord(AT);
            plan.joinTick[path] = expectNumber(0, 99);
            expectWord(TOKEN);
            plan.joinToken[path] = expectNumber(0, MOST_TOKEN);
        }

        private void readFormula(Formula target) {
            if (target.isTold()) {
                blame(TOO_MANY, start);
                return;
            }
            formula = target;
            inside = word;
            advance();
            if (inside == DROPS) {
                readTest();
            } else {
                readSum();
            }
        }

        private void openSign() {
            if (open >= MOST_OPEN) {
                blame(TOO_DEEP, start);
            } else {
                open++;
                advance();
            }
        }

        private void readTest() {
            readBoth();
            for (int k = 0; k < TAPE_ROOM && isWord(OR); k++) {
                advance();
                readBoth();
                formula.put(Formula.OR, 0);
            }
        }

        private void readBoth() {
            readFact();
            for (int k = 0; k < TAPE_ROOM && isWord(AND); k++) {
                advance();
                readFact();
                formula.put(Formula.AND, 0);
            }
        }

        private void readFact() {
            if (isWord(NOT)) {
                openSign();
                readFact();
                open--;
                formula.put(Formula.NOT, 0);
            } else if (isSign('[')) {
                openSign();
                readTest();
                expectSign(']');
                open--;
            } else if (isWord(ALL)) {
                advance();
                formula.put(Formula.NUMBER, 1);
            } else {
                readSum();
                int sign = isSign('<') ? Formula.BELOW : isSign('>') ? Formula.ABOVE : Formula.SAME;
                if (sign == Formula.SAME) {
                    expectSign('=');
                } else {
                    advance();
                }
                readSum();
                formula.put(sign, 0);
            }
        }

        private void readSum() {
            readProduct();
            for (int k = 0; k < TAPE_ROOM && (isSign('+') || isSign('-')); k++) {
                int sign = isSign('+') ? Formula.ADD : Formula.LESS_BY;
                advance();
                readProduct();
                formula.put(sign, 0);
            }
        }

        private void readProduct() {
            readPart();
            for (int k = 0; k < TAPE_ROOM && (isSign('*') || isSign('/') || isSign('%')); k++) {
                int sign = isSign('*') ? Formula.TIMES : isSign('/') ? Formula.DIVIDE : Formula.REST;
                advance();
                readPart();
                formula.put(sign, 0);
            }
        }

        private void readPart() {
            if (isSign('(')) {
                openSign();
                readSum();
                expectSign(')');
                open--;
            } else if (isWord(IF)) {
                advance();
                readChoice();
            } else if (isWord(MIN) || isWord(MAX)) {
                int sign = isWord(MIN) ? Formula.MIN : Formula.MAX;
                advance();
                readPair(sign);
            } else if (kind == WORD && factOf(word) != NONE) {
                formula.put(Formula.FACT, factOf(word));
                advance();
            } else {
                formula.put(Formula.NUMBER, expectNumber(0, MOST_NUMBER));
            }
        }

        private void readChoice() {
            if (!isSign('(')) {
                blameHere();
                return;
            }
            openSign();
            readTest();
            expectSign(',');
            readSum();
            expectSign(',');
            readSum();
            expectSign(')');
            open--;
            formula.put(Formula.IF, 0);
        }

        private void readPair(int sign) {
            if (!isSign('(')) {
                blameHere();
                return;
            }
            openSign();
            readSum();
            expectSign(',');
            readSum();
            expectSign(')');
            open--;
            formula.put(sign, 0);
        }

        private int factOf(int own) {
            switch (own) {
                case TICK: return Formula.TICK;
                case PATH: return inside == DROPS || inside == PICKS ? Formula.PATH : NONE;
                case SEGMENT: return inside == DROPS ? Formula.SEGMENT : NONE;
                case FROM: return inside == DROPS ? Formula.FROM : NONE;
                case DELAY: return inside == PICKS || inside == WAITS ? Formula.DELAY : NONE;
                case CWND: return inside == PICKS || inside == WAITS ? Formula.CWND : NONE;
                case FLYING: return inside == PICKS ? Formula.FLYING : NONE;
                case FAILS: return inside == WAITS ? Formula.FAILS : NONE;
                case READY: return inside == READS ? Formula.READY : NONE;
                case AHEAD: return inside == READS ? Formula.AHEAD : NONE;
                default: return NONE;
            }
        }
    }

    /** A PATH as it stands. */
    private static final class Route {
        private static final int FIRST_CWND = 2000;
        private static final int LEAST_CWND = 1000;
        private static final int MOST_CWND = 99000;
        private static final int FOR_EACH_FLYING = 1000;

        int delay;
        boolean joined;
        boolean dead;
        int cwnd;
        int failed;
        int flying;
        int sent;
        boolean spoiled;

        void begin(int told) {
            delay = told;
            joined = false;
            dead = false;
            cwnd = 0;
            failed = 0;
            flying = 0;
            sent = 0;
            spoiled = false;
        }

        void copyFrom(Route other) {
            delay = other.delay;
            joined = other.joined;
            dead = other.dead;
            cwnd = other.cwnd;
            failed = other.failed;
            flying = other.flying;
            sent = other.sent;
            spoiled = other.spoiled;
        }

        boolean isNew() {
            return !joined && !dead;
        }

        boolean isAlive() {
            return joined && !dead;
        }

        boolean hasRoom() {
            return isAlive() && FOR_EACH_FLYING * flying < cwnd;
        }

        void enter() {
            joined = true;
            cwnd = FIRST_CWND;
        }

        void grow(int by) {
            cwnd = Math.min(cwnd + by, MOST_CWND);
        }

        void halve() {
            cwnd = Math.max(cwnd / 2, LEAST_CWND);
        }
    }

    /** The side that takes SEGMENTS and reads. */
    private static final class Receiver {
        static final int WRONG_JOIN = 0;
        private static final int WRONG_SUM = 1;
        private static final int NO_ROOM = 2;
        private static final int TAKEN_ALREADY = 3;

        // 1 for a byte that is TAKEN.
        final byte[] has = new byte[MOST_BYTES];
        final int[] refused = new int[4];
        int length;
        int window;
        int taken;
        int read;

        void begin(Plan plan) {
            for (int k = 0; k < MOST_BYTES; k++) {
                has[k] = 0;
            }
            for (int k = 0; k < refused.length; k++) {
                refused[k] = 0;
            }
            length = plan.length;
            window = plan.window;
            taken = 0;
            read = 0;
        }

        void copyFrom(Receiver other) {
            System.arraycopy(other.has, 0, has, 0, MOST_BYTES);
            System.arraycopy(other.refused, 0, refused, 0, refused.length);
            length = other.length;
            window = other.window;
            taken = other.taken;
            read = other.read;
        }

        void arrive(int first, int size, boolean wrong) {
            if (wrong) {
                refused[WRONG_SUM]++;
            } else if (first + size > read + window) {
                refused[NO_ROOM]++;
            } else if (take(first, size) == 0) {
                refused[TAKEN_ALREADY]++;
            }
        }

        private int take(int first, int size) {
            int fresh = 0;
            for (int k = first; k < first + size && k < MOST_BYTES; k++) {
                if (has[k] == 0) {
                    has[k] = 1;
                    fresh++;
                }
            }
            taken += fresh;
            return fresh;
        }

        int missing() {
            int k = read;
            while (k < length && has[k] != 0) {
                k++;
            }
            return k;
        }
    }

    /** SEGMENTS that fly or are on their way, in the order in which they were sent. */
    private static final class Flight {
        // CWND lets 99 fly on a PATH; of those that FAILED, one a TICK, 18 at most are on their way still.
        static final int ROOM = 512;

        final int[] path = new int[ROOM];
        final int[] number = new int[ROOM];
        final int[] first = new int[ROOM];
        final int[] size = new int[ROOM];
        final int[] sentAt = new int[ROOM];
        // NONE for one that is lost.
        final int[] arrivesAt = new int[ROOM];
        final boolean[] wrong = new boolean[ROOM];
        final boolean[] flies = new boolean[ROOM];
        int count;

        void copyFrom(Flight other) {
            count = other.count;
            System.arraycopy(other.path, 0, path, 0, count);
            System.arraycopy(other.number, 0, number, 0, count);
            System.arraycopy(other.first, 0, first, 0, count);
            System.arraycopy(other.size, 0, size, 0, count);
            System.arraycopy(other.sentAt, 0, sentAt, 0, count);
            System.arraycopy(other.arrivesAt, 0, arrivesAt, 0, count);
            for (int row = 0; row < count; row++) {
                wrong[row] = other.wrong[row];
                flies[row] = other.flies[row];
            }
        }

        void add(int onPath, int withNumber, int from, int bytes, int tick, int arrival, boolean isWrong) {
            if (count >= ROOM) {
                return;
            }
            path[count] = onPath;
            number[count] = withNumber;
            first[count] = from;
            size[count] = bytes;
            sentAt[count] = tick;
            arrivesAt[count] = arrival;
            wrong[count] = isWrong;
            flies[count] = true;
            count++;
        }

        int flyingRow(int k) {
            int left = k;
            for (int row = 0; row < count && left >= 0; row++) {
                if (flies[row]) {
                    if (left == 0) {
                        return row;
                    }
                    left--;
                }
            }
            return NONE;
        }

        int rowOf(int onPath, int withNumber) {
            for (int row = 0; row < count; row++) {
                if (flies[row] && path[row] == onPath && number[row] == withNumber) {
                    return row;
                }
            }
            return NONE;
        }

        int firstOn(int onPath) {
            for (int row = 0; row < count; row++) {
                if (flies[row] && path[row] == onPath) {
                    return row;
                }
            }
            return NONE;
        }

        int firstWith(int octet) {
            for (int row = 0; row < count; row++) {
                if (flies[row] && first[row] <= octet && octet < first[row] + size[row]) {
                    return row;
                }
            }
            return NONE;
        }

        // Leaves out those that neither fly nor are on their way behind this TICK.
        void tidy(int tick) {
            int kept = 0;
            for (int row = 0; row < count; row++) {
                if (flies[row] || arrivesAt[row] > tick) {
                    if (kept < row) {
                        move(row, kept);
                    }
                    kept++;
                }
            }
            count = kept;
        }

        private void move(int from, int to) {
            path[to] = path[from];
            number[to] = number[from];
            first[to] = first[from];
            size[to] = size[from];
            sentAt[to] = sentAt[from];
            arrivesAt[to] = arrivesAt[from];
            wrong[to] = wrong[from];
            flies[to] = flies[from];
        }
    }

    /** ANSWERS on their way, in the order in which they set out. */
    private static final class Answers {
        // As for SEGMENTS, and one a TICK for none.
        private static final int ROOM = 512;

        final int[] path = new int[ROOM];
        // NONE for no SEGMENT.
        final int[] number = new int[ROOM];
        final int[] needed = new int[ROOM];
        final int[] edge = new int[ROOM];
        final int[] arrivesAt = new int[ROOM];
        int count;

        void copyFrom(Answers other) {
            count = other.count;
            System.arraycopy(other.path, 0, path, 0, count);
            System.arraycopy(other.number, 0, number, 0, count);
            System.arraycopy(other.needed, 0, needed, 0, count);
            System.arraycopy(other.edge, 0, edge, 0, count);
            System.arraycopy(other.arrivesAt, 0, arrivesAt, 0, count);
        }

        void add(int onPath, int ofNumber, int missing, int room, int arrival) {
            if (count >= ROOM) {
                return;
            }
            path[count] = onPath;
            number[count] = ofNumber;
            needed[count] = missing;
            edge[count] = room;
            arrivesAt[count] = arrival;
            count++;
        }

        void tidy(int tick) {
            int left = 0;
            for (int row = 0; row < count; row++) {
                if (arrivesAt[row] > tick) {
                    path[left] = path[row];
                    number[left] = number[row];
                    needed[left] = needed[row];
                    edge[left] = edge[row];
                    arrivesAt[left] = arrivesAt[row];
                    left++;
                }
            }
            count = left;
        }
    }

    /** Pieces that are to be sent AGAIN. */
    private static final class Pieces {
        // New bytes are sent only when none is here, so there are never more than can fly.
        private static final int ROOM = 512;

        final int[] first = new int[ROOM];
        final int[] size = new int[ROOM];
        int count;

        void copyFrom(Pieces other) {
            count = other.count;
            System.arraycopy(other.first, 0, first, 0, count);
            System.arraycopy(other.size, 0, size, 0, count);
        }

        void add(int from, int bytes) {
            if (count < ROOM) {
                first[count] = from;
                size[count] = bytes;
                count++;
            }
        }

        int countFrom(int needed) {
            int found = 0;
            for (int k = 0; k < count; k++) {
                if (first[k] + size[k] > needed) {
                    found++;
                }
            }
            return found;
        }

        void tidy(int needed) {
            int left = 0;
            for (int k = 0; k < count; k++) {
                if (first[k] + size[k] > needed) {
                    first[left] = first[k];
                    size[left] = size[k];
                    left++;
                }
            }
            count = left;
        }

        void removeFirst() {
            if (count > 0) {
                count--;
                System.arraycopy(first, 1, first, 0, count);
                System.arraycopy(size, 1, size, 0, count);
            }
        }
    }

    /** What is KEPT: the last ones, in a ring. */
    private static final class Log {
        static final int FAILED = 0;
        static final int PENALTY = 1;
        static final int DEAD = 2;
        private static final int ROOM = 40;

        final int[] kind = new int[ROOM];
        final int[] path = new int[ROOM];
        final int[] value = new int[ROOM];
        int count;
        private int next;

        void clear() {
            count = 0;
            next = 0;
        }

        void copyFrom(Log other) {
            System.arraycopy(other.kind, 0, kind, 0, ROOM);
            System.arraycopy(other.path, 0, path, 0, ROOM);
            System.arraycopy(other.value, 0, value, 0, ROOM);
            count = other.count;
            next = other.next;
        }

        void add(int ofKind, int ofPath, int withValue) {
            kind[next] = ofKind;
            path[next] = ofPath;
            value[next] = withValue;
            next = (next + 1) % ROOM;
            count = Math.min(count + 1, ROOM);
        }

        int rowOf(int k) {
            return (next + ROOM - count + k) % ROOM;
        }
    }

    /** All that a TICK changes. */
    private static final class World {
        private static final int MOST_WAIT = 99;
        private static final int FAILS_TO_DIE = 3;
        private static final int GROWTH = 1000000;

        final Route[] routes = new Route[MOST_PATHS];
        final Receiver receiver = new Receiver();
        final Flight flight = new Flight();
        final Answers answers = new Answers();
        final Pieces again = new Pieces();
        final Log log = new Log();
        private final int[] facts = new int[Formula.FACTS];
        private Plan plan;
        int tick;
        int sent;
        int needed;
        int edge;
        int sentBytes;
        // Of the latest TICK alone.
        int sentNow;
        int lostNow;
        boolean firstDropped;

        World(Plan told) {
            plan = told;
            for (int path = 0; path < MOST_PATHS; path++) {
                routes[path] = new Route();
            }
        }

        void begin(Plan told) {
            plan = told;
            tick = 0;
            sent = 0;
            needed = 0;
            edge = told.window;
            sentBytes = 0;
            receiver.begin(told);
            flight.count = 0;
            answers.count = 0;
            again.count = 0;
            log.clear();
            for (int path = 0; path < MOST_PATHS; path++) {
                routes[path].begin(told.delay[path]);
            }
            if (told.paths > 0) {
                routes[0].enter();
            }
        }

        void copyFrom(World other) {
            plan = other.plan;
            tick = other.tick;
            sent = other.sent;
            needed = other.needed;
            edge = other.edge;
            sentBytes = other.sentBytes;
            receiver.copyFrom(other.receiver);
            flight.copyFrom(other.flight);
            answers.copyFrom(other.answers);
            again.copyFrom(other.again);
            log.copyFrom(other.log);
            for (int path = 0; path < MOST_PATHS; path++) {
                routes[path].copyFrom(other.routes[path]);
            }
        }

        boolean isFinished() {
            return needed >= receiver.length;
        }

        int alive() {
            int count = 0;
            for (int path = 0; path < plan.paths; path++) {
                if (routes[path].isAlive()) {
                    count++;
                }
            }
            return count;
        }

        int flying() {
            int count = 0;
            for (int path = 0; path < plan.paths; path++) {
                count += routes[path].flying;
            }
            return count;
        }

        int waitOn(int path) {
            Route route = routes[path];
            int wait = 4 * route.delay + 2;
            if (plan.waits.isTold()) {
                facts[Formula.TICK] = tick;
                facts[Formula.DELAY] = route.delay;
                facts[Formula.CWND] = route.cwnd;
                facts[Formula.FAILS] = route.failed;
                wait = plan.waits.valueBy(facts);
            }
            return Math.max(1, Math.min(MOST_WAIT, wait));
        }

        boolean tryToken(int path, int token) {
            if (routes[path].isNew() && token == plan.rightToken()) {
                routes[path].enter();
                return true;
            }
            receiver.refused[Receiver.WRONG_JOIN]++;
            return false;
        }

        // The PATH is DEAD from now on; it may be so already, then nothing is told of it.
        void bury(int path) {
            Route route = routes[path];
            if (route.dead) {
                return;
            }
            route.dead = true;
            log.add(Log.DEAD, path, tick);
            for (int row = 0; row < flight.count; row++) {
                if (flight.flies[row] && flight.path[row] == path) {
                    sendAgain(row);
                }
            }
        }

        private void sendAgain(int row) {
            flight.flies[row] = false;
            routes[flight.path[row]].flying--;
            again.add(flight.first[row], flight.size[row]);
        }

        // One TICK; by the seed if there are draws.
        void step(Draws draws) {
            sentNow = 0;
            lostNow = 0;
            firstDropped = false;
            joinTold();
            hearAnswers();
            receive();
            answers.tidy(tick);
            for (int path = 0; path < plan.paths; path++) {
                failLate(path);
            }
            flight.tidy(tick);
            if (sendPieces(draws)) {
                penalise(draws);
            }
            tick++;
        }

        private void joinTold() {
            for (int path = 0; path < plan.paths; path++) {
                if (plan.joinTick[path] == tick) {
                    tryToken(path, plan.joinToken[path]);
                }
            }
        }

        private void hearAnswers() {
            for (int k = 0; k < answers.count; k++) {
                if (answers.arrivesAt[k] == tick) {
                    needed = Math.max(needed, answers.needed[k]);
                    edge = Math.max(edge, answers.edge[k]);
                    int row = flight.rowOf(answers.path[k], answers.number[k]);
                    if (row != NONE) {
                        settle(row);
                    }
                }
            }
        }

        private void settle(int row) {
            Route route = routes[flight.path[row]];
            flight.flies[row] = false;
            route.flying--;
            route.failed = 0;
            int together = 0;
            for (int path = 0; path < plan.paths; path++) {
                if (routes[path].isAlive()) {
                    together += routes[path].cwnd;
                }
            }
            if (together > 0) {
                route.grow(GROWTH / together);
            }
        }

        private void receive() {
            int right = 0;
            int wrong = 0;
            for (int row = 0; row < flight.count; row++) {
                if (flight.arrivesAt[row] == tick) {
                    receiver.arrive(flight.first[row], flight.size[row], flight.wrong[row]);
                    right += flight.wrong[row] ? 0 : 1;
                    wrong += flight.wrong[row] ? 1 : 0;
                }
            }
            int missing = receiver.missing();
            int amount = amountToRead(missing);
            receiver.read += amount;
            if (right > 0) {
                answerRight(missing);
            } else if (amount > 0) {
                answerOnFirst(missing);
            }
            if (wrong > 0) {
                buryWrong();
            }
        }

        private void answerRight(int missing) {
            for (int row = 0; row < flight.count; row++) {
                if (flight.arrivesAt[row] == tick && !flight.wrong[row]) {
                    answer(flight.path[row], flight.number[row], missing);
                }
            }
        }

        private void buryWrong() {
            for (int row = 0; row < flight.count; row++) {
                if (flight.arrivesAt[row] == tick && flight.wrong[row]) {
                    bury(flight.path[row]);
                }
            }
        }

        private int amountToRead(int missing) {
            int ready = missing - receiver.read;
            if (!plan.reads.isTold()) {
                return ready;
            }
            facts[Formula.TICK] = tick;
            facts[Formula.READY] = ready;
            facts[Formula.AHEAD] = receiver.taken - missing;
            return Math.max(0, Math.min(ready, plan.reads.valueBy(facts)));
        }

        private void answer(int path, int number, int missing) {
            int room = receiver.read + receiver.window;
            answers.add(path, number, missing, room, tick + routes[path].delay);
        }

        private void answerOnFirst(int missing) {
            for (int path = 0; path < plan.paths; path++) {
                if (routes[path].isAlive()) {
                    answer(path, NONE, missing);
                    return;
                }
            }
        }

        private void failLate(int path) {
            int row = routes[path].flying > 0 ? flight.firstOn(path) : NONE;
            if (row == NONE || tick - flight.sentAt[row] < waitOn(path)) {
                return;
            }
            Route route = routes[path];
            log.add(Log.FAILED, path, flight.first[row]);
            sendAgain(row);
            route.failed++;
            route.halve();
            if (route.failed >= FAILS_TO_DIE) {
                bury(path);
            }
        }

        // Whether there is no piece any more.
        private boolean sendPieces(Draws draws) {
            again.tidy(needed);
            int limit = Math.min(edge, plan.length);
            for (int k = 0; k < Flight.ROOM && flight.count < Flight.ROOM; k++) {
                if (again.count == 0 && sent >= limit) {
                    return true;
                }
                int path = pick(NONE);
                if (path == NONE) {
                    return false;
                }
                if (again.count > 0) {
                    send(path, again.first[0], again.size[0], draws);
                    again.removeFirst();
                } else {
                    int size = Math.min(plan.unit, limit - sent);
                    send(path, sent, size, draws);
                    sent += size;
                }
            }
            return false;
        }

        // Behind a PENALTY there is no piece still, so the TICK sends no more.
        private void penalise(Draws draws) {
            int row = sent == edge && sent < plan.length ? flight.firstWith(needed) : NONE;
            if (row == NONE) {
                return;
            }
            int slow = flight.path[row];
            int path = pick(slow);
            if (path == NONE) {
                return;
            }
            send(path, flight.first[row], flight.size[row], draws);
            routes[slow].halve();
            log.add(Log.PENALTY, slow, flight.first[row]);
        }

        private int pick(int butThis) {
            int best = NONE;
            int least = 0;
            facts[Formula.TICK] = tick;
            for (int path = 0; path < plan.paths; path++) {
                Route route = routes[path];
                if (path != butThis && route.hasRoom()) {
                    facts[Formula.PATH] = path;
                    facts[Formula.DELAY] = route.delay;
                    facts[Formula.CWND] = route.cwnd;
                    facts[Formula.FLYING] = route.flying;
                    int value = plan.picks.isTold() ? plan.picks.valueBy(facts) : route.delay;
                    if (best == NONE || value < least) {
                        best = path;
                        least = value;
                    }
                }
            }
            return best;
        }

        private void send(int path, int first, int size, Draws draws) {
            Route route = routes[path];
            facts[Formula.TICK] = tick;
            facts[Formula.PATH] = path;
            facts[Formula.SEGMENT] = route.sent;
            facts[Formula.FROM] = first;
            boolean lost = plan.drops.isTold() && plan.drops.valueBy(facts) != 0;
            if (sentNow == 0) {
                firstDropped = lost;
            }
            if (draws != null && draws.drawOf(ALL_ROWS) < plan.loss) {
                lost = true;
                lostNow++;
            }
            int arrival = lost ? NONE : tick + route.delay;
            flight.add(path, route.sent, first, size, tick, arrival, route.spoiled);
            route.spoiled = false;
            route.sent++;
            route.flying++;
            sentBytes += size;
            sentNow++;
        }
    }
}
