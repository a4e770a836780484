import java.lang.reflect.Method;
import java.lang.reflect.Modifier;
import java.nio.charset.StandardCharsets;
import java.nio.file.Files;
import java.nio.file.Path;
import java.util.List;
import java.util.regex.Matcher;
import java.util.regex.Pattern;
import java.util.stream.Collectors;
import java.util.stream.Stream;

/** README.md as it stands: what its examples answer, and that it names every call and every test. */
public final class ReadmeRuns {
    private static int wrong = 0;

    private static void due(String what, int got, int want) {
        if (got != want) {
            wrong++;
            System.out.println(what + " answered " + got + ", due is " + want);
        }
    }

    private static void names(String page, String name) {
        if (!page.contains("`" + name + "`")) {
            wrong++;
            System.out.println("README.md does not name " + name);
        }
    }

    private static String block(String page, String kind) {
        Matcher found = Pattern.compile("```" + kind + "\n(.*?)```", Pattern.DOTALL).matcher(page);
        return found.find() ? found.group(1) : "";
    }

    private static int tell(PathStream x, String text) {
        byte[] bytes = text.getBytes(StandardCharsets.ISO_8859_1);
        for (int k = 0; k < bytes.length; k += 20) {
            int[] v = new int[5];
            for (int j = 0; j < 20; j++) {
                v[j / 4] = v[j / 4] << 8 | (k + j < bytes.length ? bytes[k + j] & 255 : 0);
            }
            x.feed(v[0], v[1], v[2], v[3], v[4]);
        }
        x.end(bytes.length);
        return x.stream();
    }

    /** The numbers of the page's own feed() calls, not a copy of them. */
    private static void tapeExample(String code) {
        PathStream x = new PathStream();
        Matcher feed = Pattern.compile("feed\\((.*?)\\);\\s*// \"(.*?)\"").matcher(code);
        int feeds = 0;
        while (feed.find()) {
            int[] v = Stream.of(feed.group(1).split(", ")).mapToInt(Integer::decode).toArray();
            StringBuilder said = new StringBuilder();
            for (int k = 0; k < 20; k++) {
                said.append((char) (v[k / 4] >> 24 - k % 4 * 8 & 255));
            }
            due("the words behind feed() " + feeds, said.toString().equals(feed.group(2)) ? 1 : 0, 1);
            feeds++;
            due("feed()", x.feed(v[0], v[1], v[2], v[3], v[4]), 20 * feeds);
        }
        due("how many feed()", feeds, 2);
        Matcher end = Pattern.compile("end\\((\\d+)\\)").matcher(code);
        due("end()", end.find() && x.end(Integer.parseInt(end.group(1))) ? 1 : 0, 1);
        due("stream()", x.stream(), 1);
    }

    private static int said(String page, String words) {
        Matcher found = Pattern.compile(words).matcher(page);
        return found.find() ? Integer.parseInt(found.group(1)) : Integer.MIN_VALUE;
    }

    private static void streamExample(String page) {
        PathStream x = new PathStream();
        due("stream()", tell(x, block(page, "text")), 9);
        due("finish()", x.finish(), said(page, "`x\\.finish\\(\\)` is (\\d+): it is finished"));
        due("ticks(4)", x.ticks(4), said(page, "`x\\.ticks\\(4\\)` lets four of them go by and\\s+answers (\\d+)"));
        due("finish() behind it", x.finish(), said(page, "`x\\.finish\\(\\)` is (\\d+) then"));
        due("undo()", x.undo() ? 1 : 0, 1);
        due("finish() behind undo()", x.finish(), said(page, "and (\\d+) again behind `x\\.undo\\(\\)`"));
    }

    private static List<String> tests() throws Exception {
        try (Stream<Path> files = Files.list(Path.of("src/test/java"))) {
            return files.map(file -> file.getFileName().toString().replace(".java", "")).collect(Collectors.toList());
        }
    }

    public static void main(String[] args) throws Exception {
        String page = Files.readString(Path.of("README.md"));
        for (Method call : PathStream.class.getDeclaredMethods()) {
            if (Modifier.isPublic(call.getModifiers())) {
                names(page, call.getName());
            }
        }
        for (String test : tests()) {
            names(page, test);
        }
        tapeExample(block(page, "java"));
        streamExample(page);
        System.out.println(wrong == 0 ? "README.md is as due" : wrong + " faults of README.md");
        if (wrong != 0) {
            System.exit(1);
        }
    }
}
