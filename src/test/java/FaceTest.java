import java.io.IOException;
import java.lang.reflect.Constructor;
import java.lang.reflect.Field;
import java.lang.reflect.Method;
import java.lang.reflect.Modifier;
import java.nio.file.Files;
import java.nio.file.Path;
import java.util.ArrayList;
import java.util.Arrays;
import java.util.List;
import java.util.Set;
import java.util.TreeSet;
import java.util.regex.Matcher;
import java.util.regex.Pattern;

/** The public face of the document and those rules of LANGUAGE.md that the class or its source can tell. */
public final class FaceTest {
    private static final String FACE = """
        state(int)int
        person(int)int
        bargain(int,int,int)int
        set(int,int,int)boolean
        act(int,int)boolean
        days(int)int
        feed(int,int,int,int,int)int
        end(int)boolean
        text(int)int
        fault(int)int
        of(int,int)int
        deal(int,int)int
        book(int,int)int
        goes(int,int)int
        holds(int)int
        deals(int,int)int
        jump(int)int
        jumps(int)int
        walks(int,int,int)int
        apart(int,int)int
        corners(int,int)int
        parts(int,int)int
        lasts(int,int)int
        turn(int)int
        turning(int)int
        ant(int,int)int
        row(int,int,int)int
        own(int,int)int
        round(int,int,int,int)int
        nine(int,int)boolean
        even(int)int
        rule(int,int)int
        game(int,int)int
        undo()boolean
        image(boolean)boolean
        look(int)int
        """;

    private static int wrong = 0;

    private static void check(boolean isRight, String what) {
        if (!isRight) {
            wrong++;
            System.out.println("wrong: " + what);
        }
    }

    public static void main(String[] args) throws IOException {
        checkFace();
        checkNested();
        checkSource(Files.readString(Path.of("src/main/java/TwisterCourt.java")));
        System.out.println(wrong == 0 ? "the face is as due" : wrong + " things are wrong");
        if (wrong != 0) {
            System.exit(1);
        }
    }

    private static void checkFace() {
        Class<?> c = TwisterCourt.class;
        check(Modifier.isPublic(c.getModifiers()) && Modifier.isFinal(c.getModifiers()), "the class is public and final");
        Set<String> due = new TreeSet<>(Arrays.asList(FACE.strip().split("\\s+")));
        Set<String> found = new TreeSet<>();
        Set<String> open = new TreeSet<>();
        for (Method m : c.getDeclaredMethods()) {
            if (Modifier.isPrivate(m.getModifiers())) {
                continue;
            }
            found.add(signature(m));
            open.add(m.getName());
            check(Modifier.isPublic(m.getModifiers()) && !Modifier.isStatic(m.getModifiers()), m + " is public");
        }
        check(found.equals(due), "the methods are " + found);
        for (Method m : c.getDeclaredMethods()) {
            check(!Modifier.isPrivate(m.getModifiers()) || !open.contains(m.getName()), m + " bears a public name");
        }
        Constructor<?>[] made = c.getDeclaredConstructors();
        check(made.length == 1 && Modifier.isPublic(made[0].getModifiers()) && made[0].getParameterCount() == 0,
            "one public constructor");
        for (Field f : c.getDeclaredFields()) {
            int m = f.getModifiers();
            boolean isNone = f.getName().equals("NONE");
            check(isNone ? Modifier.isPublic(m) && Modifier.isStatic(m) && Modifier.isFinal(m) : Modifier.isPrivate(m),
                f + " is private");
            check(!Modifier.isStatic(m) || Modifier.isFinal(m), f + " is final");
        }
        check(TwisterCourt.NONE == -1, "NONE is -1");
    }

    private static String signature(Method m) {
        List<String> types = new ArrayList<>();
        for (Class<?> p : m.getParameterTypes()) {
            types.add(p.getSimpleName());
        }
        return m.getName() + "(" + String.join(",", types) + ")" + m.getReturnType().getSimpleName();
    }

    private static void checkNested() {
        Class<?>[] nested = TwisterCourt.class.getDeclaredClasses();
        check(nested.length <= 11, "at most twelve classes");
        for (Class<?> n : nested) {
            int m = n.getModifiers();
            check(Modifier.isStatic(m) && !Modifier.isPublic(m) && !Modifier.isProtected(m), n + " is static and not open");
            int fields = 0;
            for (Field f : n.getDeclaredFields()) {
                boolean isStatic = Modifier.isStatic(f.getModifiers());
                fields += isStatic ? 0 : 1;
                check(!isStatic || Modifier.isFinal(f.getModifiers()), f + " is final");
            }
            check(fields <= 20, n + " has at most twenty fields");
            for (Method method : n.getDeclaredMethods()) {
                check(method.getParameterCount() <= 7, method + " takes at most seven");
                check(!("\n" + FACE).contains("\n" + method.getName() + "("), method + " bears a public name");
            }
        }
    }

    private static void checkSource(String source) {
        String bare = source.replaceAll("(?s)/\\*.*?\\*/", " ").replaceAll("//[^\n]*", " ")
            .replaceAll("\"[^\"\n]*\"", "\"\"").replaceAll("'[^'\n]+'", "' '");
        String[] ruledOut = {"throw", "throws", "try", "catch", "synchronized", "assert", "package", "import", "protected",
            "instanceof", "native", "volatile", "strictfp", "Object", "Thread", "Random", "Exact", "var"};
        for (String word : ruledOut) {
            check(!Pattern.compile("\\b" + word + "\\b").matcher(bare).find(), "the source says " + word);
        }
        check(!bare.contains("->") && !bare.contains("::"), "no lambda, no method reference");
        check(!bare.contains("Exact("), "none of the Exact functions");
        Matcher library = Pattern.compile("\\b(System|Math|Integer|Long|Arrays)\\.(\\w+)").matcher(bare);
        Set<String> allowed = Set.of("System.arraycopy", "Math.max", "Math.min", "Integer.bitCount", "Long.bitCount");
        while (library.find()) {
            check(allowed.contains(library.group()), "the source uses " + library.group());
        }
        checkLengths(bare);
    }

    /** A method stands between a line that opens at its depth and the next line that closes there. */
    private static void checkLengths(String bare) {
        String[] lines = bare.split("\n", -1);
        Pattern opens = Pattern.compile("^(    |        )(?:\\w[\\w\\[\\]<>]* )*\\w+\\([^;]*\\) \\{$");
        for (int i = 0; i < lines.length; i++) {
            Matcher m = opens.matcher(lines[i]);
            if (!m.find()) {
                continue;
            }
            int end = i + 1;
            while (end < lines.length && !lines[end].equals(m.group(1) + "}")) {
                end++;
            }
            check(end - i <= 62, "line " + (i + 1) + ": a method of " + (end - i) + " lines");
        }
        for (int i = 0; i < lines.length; i++) {
            check(lines[i].length() <= 120, "line " + (i + 1) + " is long");
        }
    }
}
