import java.nio.charset.StandardCharsets;
import java.util.ArrayList;
import java.util.Arrays;
import java.util.List;
import java.util.Random;
import java.util.Set;
import java.util.TreeSet;

/**
 * Random texts, most of them broken, read a second time by a reader that shares no code with the class: the number of
 * STATEMENTS, the FAULT and its place must be the same. What Terms I leave open is chosen in both as NOTES.md says.
 */
public final class BrokenTexts {
    static final String OWN = "stream unit window key path delay join at token loss drops picks reads waits tick number from cwnd "
        + "flying fails ready ahead if or and not all min max";
    static final Set<String> OWN_WORDS = new TreeSet<>(Arrays.asList(OWN.split(" ")));
    static final String[] FORMULAS = {"drops", "picks", "reads", "waits"};
    static final int ROOM = 1600;

    static int wrong = 0;
    static int texts = 0;
    static final int[] seen = new int[7];
    static Random r;

    // ---- a second reader

    static final class Fault extends RuntimeException {
        private static final long serialVersionUID = 1L;
        final int kind;
        final int place;

        Fault(int kind, int place) {
            this.kind = kind;
            this.place = place;
        }
    }

    record Token(char kind, int start, int behind, String text) {
        int number() {
            return Integer.parseInt(text);
        }
    }

    static final class SecondReader {
        final String text;
        int at = 0;
        char last = ' ';
        Token next;
        int open = 0;
        int statements = 0;
        String inside = "";
        final List<String> names = new ArrayList<>();
        final List<Integer> delays = new ArrayList<>();
        final Set<String> joins = new TreeSet<>();
        final Set<String> told = new TreeSet<>();

        SecondReader(String text) {
            this.text = text;
        }

        int behindBlanks() {
            int k = at;
            while (k < text.length() && " \n".indexOf(text.charAt(k)) >= 0) {
                k++;
            }
            return k;
        }

        static char kindOf(char c) {
            return c >= 'a' && c <= 'z' ? 'w' : c >= '0' && c <= '9' ? 'n' : 's';
        }

        Token peek() {
            if (next == null) {
                next = look();
            }
            return next;
        }

        Token look() {
            int start = behindBlanks();
            if (start == text.length()) {
                return new Token('e', start, start, "");
            }
            char kind = kindOf(text.charAt(start));
            if (kind == 's') {
                return new Token('s', start, start + 1, text.substring(start, start + 1));
            }
            if (start == at && (last == 'w' || last == 'n')) {
                throw new Fault(1, start);
            }
            int end = start;
            while (end < text.length() && kindOf(text.charAt(end)) == kind) {
                if (end - start == (kind == 'w' ? 6 : 4)) {
                    throw new Fault(1, end);
                }
                end++;
            }
            return new Token(kind, start, end, text.substring(start, end));
        }

        Token take() {
            Token t = peek();
            at = t.behind;
            last = t.kind;
            next = null;
            return t;
        }

        boolean is(char kind, String what) {
            return peek().kind == kind && peek().text.equals(what);
        }

        Fault here(int kind) {
            return new Fault(kind, peek().start);
        }

        void must(char kind, String what) {
            if (!is(kind, what)) {
                throw here(1);
            }
            take();
        }

        int number(int least, int most) {
            if (peek().kind != 'n') {
                throw here(1);
            }
            if (peek().number() < least || peek().number() > most) {
                throw here(4);
            }
            return take().number();
        }

        Token name() {
            if (peek().kind != 'w' || OWN_WORDS.contains(peek().text)) {
                throw here(1);
            }
            return take();
        }

        void read() {
            do {
                if (statements == 40) {
                    throw new Fault(6, behindBlanks());
                }
                statement();
                must('s', ";");
                statements++;
            } while (behindBlanks() < text.length());
        }

        void statement() {
            if (statements == 0) {
                must('w', "stream");
                number(1, 200);
                must('w', "unit");
                number(1, 20);
                must('w', "window");
                number(10, 99);
                must('w', "key");
                number(0, 999);
            } else if (is('w', "path")) {
                path();
            } else if (is('w', "join")) {
                join();
            } else if (is('w', "loss")) {
                take();
                number(0, 100);
            } else if (peek().kind == 'w' && Arrays.asList(FORMULAS).contains(peek().text)) {
                formula();
            } else {
                throw here(1);
            }
        }

        void path() {
            if (names.size() == 4) {
                throw here(6);
            }
            take();
            Token name = name();
            if (names.contains(name.text)) {
                throw new Fault(2, name.start);
            }
            names.add(name.text);
            must('w', "delay");
            delays.add(number(1, 9));
        }

        void join() {
            take();
            Token name = name();
            if (names.indexOf(name.text) < 1 || !joins.add(name.text)) {
                throw new Fault(3, name.start);
            }
            must('w', "at");
            number(0, 99);
            must('w', "token");
            number(0, 999);
        }

        void formula() {
            if (!told.add(peek().text)) {
                throw here(6);
            }
            inside = take().text;
            if (inside.equals("drops")) {
                test();
            } else {
                sum();
            }
        }

        void open() {
            if (open == 7) {
                throw here(5);
            }
            open++;
            take();
        }

        void test() {
            both();
            while (is('w', "or")) {
                take();
                both();
            }
        }

        void both() {
            fact();
            while (is('w', "and")) {
                take();
                fact();
            }
        }

        void fact() {
            if (is('w', "not")) {
                open();
                fact();
                open--;
            } else if (is('s', "[")) {
                open();
                test();
                must('s', "]");
                open--;
            } else if (is('w', "all")) {
                take();
            } else {
                sum();
                if (!is('s', "<") && !is('s', ">") && !is('s', "=")) {
                    throw here(1);
                }
                take();
                sum();
            }
        }

        void sum() {
            product();
            while (is('s', "+") || is('s', "-")) {
                take();
                product();
            }
        }

        void product() {
            part();
            while (is('s', "*") || is('s', "/") || is('s', "%")) {
                take();
                part();
            }
        }

        void part() {
            if (is('s', "(")) {
                open();
                sum();
                close();
            } else if (is('w', "if") || is('w', "min") || is('w', "max")) {
                boolean choice = take().text.equals("if");
                if (!is('s', "(")) {
                    throw here(1);
                }
                open();
                if (choice) {
                    test();
                    must('s', ",");
                }
                sum();
                must('s', ",");
                sum();
                close();
            } else if (peek().kind == 'n' || peek().kind == 'w' && factsOf(inside).contains(peek().text)) {
                take();
            } else {
                throw here(1);
            }
        }

        void close() {
            must('s', ")");
            open--;
        }
    }

    static List<String> factsOf(String formula) {
        switch (formula) {
            case "drops": return List.of("tick", "path", "number", "from");
            case "picks": return List.of("tick", "path", "delay", "cwnd", "flying");
            case "waits": return List.of("tick", "delay", "cwnd", "fails");
            default: return List.of("tick", "ready", "ahead");
        }
    }

    // ---- texts

    static String oneOf(String... these) {
        return these[r.nextInt(these.length)];
    }

    static String sum(String formula, int depth) {
        List<String> facts = factsOf(formula);
        switch (r.nextInt(depth > 0 ? 7 : 3)) {
            case 0: return "" + r.nextInt(10000);
            case 1: return facts.get(r.nextInt(facts.size()));
            case 2: return facts.get(r.nextInt(facts.size())) + oneOf("+", "-", "*", "/", "%") + r.nextInt(20);
            case 3: return "(" + sum(formula, depth - 1) + ")";
            case 4: return oneOf("min", "max") + "(" + sum(formula, depth - 1) + "," + sum(formula, depth - 1) + ")";
            case 5: return "if(" + test(formula, depth - 1) + "," + sum(formula, depth - 1) + "," + sum(formula, depth - 1) + ")";
            default: return sum(formula, depth - 1) + oneOf("+", "-", "*", "/", "%") + sum(formula, depth - 1);
        }
    }

    static String test(String formula, int depth) {
        switch (r.nextInt(depth > 0 ? 6 : 2)) {
            case 0: return " all ";
            case 1: return sum(formula, depth) + oneOf("<", ">", "=") + sum(formula, depth);
            case 2: return " not " + fact(formula, depth - 1);
            case 3: return "[" + test(formula, depth - 1) + "]";
            default: return test(formula, depth - 1) + oneOf(" or ", " and ") + test(formula, depth - 1);
        }
    }

    static String fact(String formula, int depth) {
        return oneOf("[" + test(formula, depth) + "]", " all ", "tick>3");
    }

    /** As many open at once as may be, or one less or more. */
    static String deep(String formula) {
        StringBuilder ahead = new StringBuilder();
        StringBuilder behind = new StringBuilder();
        for (int k = 6 + r.nextInt(3); k > 0; k--) {
            boolean isTest = formula.equals("drops");
            String[] pair = isTest ? oneOf(" not |", "[|]").split("\\|", 2)
                : oneOf("(|)", "min(1,|)", "max(|,4)", "if(all,2,|)", "if(not tick=1,|,3)").split("\\|", 2);
            ahead.append(pair[0]);
            behind.insert(0, pair[1]);
        }
        return ahead + (formula.equals("drops") ? oneOf(" all", "tick=1", "(1)<2") : oneOf("tick", "7", "min(1,2)")) + behind;
    }

    static String good() {
        List<String> rest = new ArrayList<>();
        StringBuilder b = new StringBuilder("stream " + (1 + r.nextInt(200)) + " unit " + (1 + r.nextInt(20)) + " window "
            + (10 + r.nextInt(90)) + " key " + r.nextInt(1000) + ";");
        String[] names = {"a", "wifi", "sixsix", "zz"};
        int paths = r.nextInt(5);
        for (int k = 0; k < paths; k++) {
            b.append("path " + names[k] + " delay " + (1 + r.nextInt(9)) + ";");
            if (k > 0 && r.nextInt(4) > 0) {
                rest.add("join " + names[k] + " at " + r.nextInt(100) + " token " + r.nextInt(1000) + ";");
            }
        }
        for (String formula : FORMULAS) {
            if (r.nextInt(2) == 0) {
                boolean isDeep = r.nextInt(5) == 0;
                String text = formula.equals("drops") ? test(formula, 3) : sum(formula, 3);
                rest.add(formula + " " + (isDeep ? deep(formula) : text) + ";");
            }
        }
        boolean many = r.nextInt(10) == 0;
        int losses = many ? 40 - 1 - paths - rest.size() + r.nextInt(3) - 1 : r.nextInt(3);
        for (int k = 0; k < losses; k++) {
            rest.add("loss " + r.nextInt(101) + ";");
        }
        while (!rest.isEmpty()) {
            b.append(rest.remove(r.nextInt(rest.size())));
        }
        return b + (many ? oneOf("", " ", ";", "x", "$", "seventh", "12345", "path", "stream 1") : "");
    }

    static String broken(String text) {
        StringBuilder b = new StringBuilder(text);
        String[] words = OWN.split(" ");
        for (int k = r.nextInt(3); k >= 0; k--) {
            int place = r.nextInt(b.length() + 1);
            String bit = oneOf(words[r.nextInt(words.length)], "abc", "sevenab", "12", "0", "9999", "10000", ";", "(", ")", "[", "]",
                "<", "=", "+", "%", ",", "$", " ", "\n", "\t", "A", "not not", "min(", "if(", "" + (char) r.nextInt(256));
            switch (r.nextInt(7)) {
                case 0: b.insert(place, bit); break;
                case 1: b.insert(place, " " + bit + " "); break;
                case 2: b.setLength(place); break;
                case 3: b.append(statementOf(text)); break;
                case 4: b.insert(b.indexOf(";", place) + 1, statementOf(text)); break;
                default: b.delete(place, Math.min(b.length(), place + 1 + r.nextInt(2))); break;
            }
        }
        return b.toString();
    }

    static String statementOf(String text) {
        String[] all = text.split(";");
        return all[r.nextInt(all.length)] + ";";
    }

    // ---- both read

    static void due(String text, String call, int got, int want) {
        if (got != want) {
            wrong++;
            System.out.println(call + " answered " + got + ", due is " + want + ", behind the text '" + text + "'");
        }
    }

    static void tape(PathStream x, String text) {
        byte[] bytes = text.getBytes(StandardCharsets.ISO_8859_1);
        for (int k = 0; k < bytes.length; k += 20) {
            int[] v = new int[5];
            for (int j = 0; j < 20; j++) {
                v[j / 4] = v[j / 4] << 8 | (k + j < bytes.length ? bytes[k + j] & 255 : 0);
            }
            x.feed(v[0], v[1], v[2], v[3], v[4]);
        }
        x.end(bytes.length);
    }

    static void both(PathStream x, String text) {
        SecondReader second = new SecondReader(text);
        int kind = 0;
        int place = PathStream.NONE;
        try {
            second.read();
        } catch (Fault fault) {
            kind = fault.kind;
            place = fault.place;
        }
        texts++;
        seen[kind]++;
        tape(x, text);
        due(text, "stream()", x.stream(), kind == 0 ? second.statements : PathStream.NONE);
        due(text, "fault(0)", x.fault(0), kind);
        due(text, "fault(1)", x.fault(1), place);
        if (kind == 0) {
            due(text, "has(1)", x.has(1), second.names.size());
            for (int path = 0; path < second.names.size(); path++) {
                String name = second.names.get(path);
                due(text, "path", x.path(path, 0), second.delays.get(path));
                for (int k = 0; k < 6; k++) {
                    due(text, "letter", x.letter(path, k), k < name.length() ? name.charAt(k) - 'a' + 1 : 0);
                }
            }
        }
    }

    public static void main(String[] args) {
        int runs = args.length > 0 ? Integer.parseInt(args[0]) : 20000;
        PathStream x = new PathStream();
        for (int k = 0; k < runs; k++) {
            r = new Random(k);
            // An object is for 512 calls, and a text takes up to 112.
            if (k % 4 == 0) {
                x = new PathStream();
            }
            String text = good();
            text = r.nextInt(4) == 0 ? text.replace(" ", oneOf("  ", "\n", " \n ")) : text;
            text = r.nextInt(4) > 0 ? broken(text) : text;
            both(x, text.substring(0, Math.min(ROOM, text.length())));
        }
        for (int kind = 0; kind < seen.length && runs >= 20000; kind++) {
            due("", "texts with FAULT " + kind + " (1 for enough)", seen[kind] >= 100 ? 1 : 0, 1);
        }
        System.out.println(wrong == 0 ? "all " + texts + " texts are as due " + Arrays.toString(seen) : wrong + " answers are wrong");
        if (wrong != 0) {
            System.exit(1);
        }
    }
}
