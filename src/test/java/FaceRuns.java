import java.lang.reflect.Constructor;
import java.lang.reflect.Field;
import java.lang.reflect.Method;
import java.lang.reflect.Modifier;
import java.nio.charset.StandardCharsets;
import java.nio.file.Files;
import java.nio.file.Path;
import java.util.Set;
import java.util.TreeSet;
import java.util.regex.Matcher;
import java.util.regex.Pattern;

/** The face that the document prints and no more; and of ../shared/LANGUAGE.md what can be seen without reading. */
public final class FaceRuns {
    private static final String[] FACE = {
        "int feed(int,int,int,int,int)", "boolean end(int)", "int stream()", "int fault(int)", "int has(int)",
        "int letter(int,int)", "int path(int,int)", "int segment(int,int)", "int octet(int)", "int refusals(int)",
        "int later(int,int)", "int finish()", "int without(int)", "int alone(int)", "int window(int)", "int odds(int)",
        "int meet()", "int delays(int)", "int tells(int,int)", "int ticks(int)", "int chance(int)", "boolean join(int,int)",
        "boolean kill(int)", "boolean spoil(int)", "boolean undo()", "boolean seed(int)", "int kept(int,int)", "int status(int)"};

    private static int wrong = 0;

    private static void check(String what, boolean holds) {
        if (!holds) {
            wrong++;
            System.out.println("does not hold: " + what);
        }
    }

    private static String told(Method method) {
        StringBuilder b = new StringBuilder(method.getReturnType().getSimpleName() + " " + method.getName() + "(");
        for (Class<?> type : method.getParameterTypes()) {
            b.append(b.charAt(b.length() - 1) == '(' ? "" : ",").append(type.getSimpleName());
        }
        return b.append(")").toString();
    }

    private static void face() {
        Class<?> c = PathStream.class;
        check("public and final", Modifier.isPublic(c.getModifiers()) && Modifier.isFinal(c.getModifiers()));
        Set<String> seen = new TreeSet<>();
        Set<String> names = new TreeSet<>();
        for (Method m : c.getDeclaredMethods()) {
            if (Modifier.isPublic(m.getModifiers())) {
                seen.add(told(m));
                names.add(m.getName());
            }
        }
        check("the methods are " + seen, seen.equals(new TreeSet<>(Set.of(FACE))));
        Constructor<?>[] constructors = c.getDeclaredConstructors();
        check("one public constructor", constructors.length == 1 && Modifier.isPublic(constructors[0].getModifiers())
            && constructors[0].getParameterCount() == 0);
        for (Field f : c.getDeclaredFields()) {
            boolean none = f.getName().equals("NONE") && Modifier.isPublic(f.getModifiers());
            check("private: " + f, none || Modifier.isPrivate(f.getModifiers()));
        }
        hidden(c, names);
        for (Class<?> inside : c.getDeclaredClasses()) {
            check("static: " + inside, Modifier.isStatic(inside.getModifiers()) && !Modifier.isPublic(inside.getModifiers()));
            hidden(inside, names);
            check("no more than some twenty fields: " + inside, ownFields(inside) <= 20);
        }
        check("no more than some twenty fields", ownFields(c) <= 20);
        check("no more than some twelve classes", c.getDeclaredClasses().length < 12);
    }

    private static void hidden(Class<?> c, Set<String> names) {
        for (Method m : c.getDeclaredMethods()) {
            boolean isFace = c == PathStream.class && Modifier.isPublic(m.getModifiers());
            check("bears the name of a public one: " + m, isFace || !names.contains(m.getName()));
            check("private: " + m, c != PathStream.class || isFace || Modifier.isPrivate(m.getModifiers()));
            check("seven parameters: " + m, m.getParameterCount() <= 7);
        }
        for (Field f : c.getDeclaredFields()) {
            check("static and not final: " + f, !Modifier.isStatic(f.getModifiers()) || Modifier.isFinal(f.getModifiers()));
        }
    }

    private static int ownFields(Class<?> c) {
        int count = 0;
        for (Field f : c.getDeclaredFields()) {
            count += Modifier.isStatic(f.getModifiers()) ? 0 : 1;
        }
        return count;
    }

    private static void text() throws Exception {
        String source = Files.readString(Path.of("src/main/java/PathStream.java"), StandardCharsets.US_ASCII);
        String bare = source.replaceAll("(?s)/\\*.*?\\*/", " ").replaceAll("//[^\n]*", " ").replaceAll("\"[^\"\n]*\"", " ");
        String[] words = {"throw", "throws", "try", "catch", "finally", "synchronized", "assert", "package", "import",
            "equals", "hashCode", "toString", "volatile", "native", "transient", "Object", "Exception"};
        for (String word : words) {
            Matcher found = Pattern.compile("\\b" + word + "\\b").matcher(bare);
            check("without " + word, !found.find());
        }
        check("without lambdas and method references", !bare.contains("->") && !bare.contains("::"));
        Matcher library = Pattern.compile("\\b(Math|System|Integer|Long|Arrays|String|StringBuilder|List|ArrayList)\\.(\\w+)").matcher(bare);
        while (library.find()) {
            check("in the library: " + library.group(), Set.of("Math.min", "Math.max", "Math.floorDiv", "Math.floorMod",
                "System.arraycopy").contains(library.group()));
        }
    }

    public static void main(String[] args) throws Exception {
        face();
        text();
        System.out.println(wrong == 0 ? "the face and the language are as due" : wrong + " faults of the face or the language");
        if (wrong != 0) {
            System.exit(1);
        }
    }
}
