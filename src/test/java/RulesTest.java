import java.io.IOException;
import java.lang.management.ManagementFactory;
import java.lang.reflect.Constructor;
import java.lang.reflect.Field;
import java.lang.reflect.Method;
import java.lang.reflect.Modifier;
import java.nio.file.Files;
import java.nio.file.Path;
import java.util.Set;
import java.util.TreeSet;
import java.util.regex.Matcher;
import java.util.regex.Pattern;

/** The public face, some rules of LANGUAGE.md that can be seen from outside, and the room that calls take. */
public final class RulesTest {
    private static final Path SOURCE = Path.of("src/main/java/BoundProofs.java");
    private static final String FACE = "int asserts(int,int,int);int back(int);int bound(int,int);int clear();"
        + "int coefficient(int,int);int core();int corner(int,int);int count(int);int follows(int,int,int);"
        + "int form(int,int,int);int keep(int);int level();int met();int proof(int);int range(int,int);int relief(int);"
        + "int sample(int);int since(int,int,int);int spared(int);int tells();int type(int);int value(int);"
        + "int whole(int,int);int why(int,int,int);int withdraws(int);long lower();long told();long upper();";
    private static int wrong = 0;

    private static void check(boolean good, String what) {
        if (!good) {
            wrong++;
            System.out.println("not so: " + what);
        }
    }

    private static void face() {
        Set<String> found = new TreeSet<>();
        Set<String> names = new TreeSet<>();
        for (Method m : BoundProofs.class.getDeclaredMethods()) {
            if (Modifier.isPublic(m.getModifiers())) {
                StringBuilder sign = new StringBuilder(m.getReturnType() + " " + m.getName() + "(");
                for (Class<?> type : m.getParameterTypes()) {
                    sign.append(sign.charAt(sign.length() - 1) == '(' ? "" : ",").append(type);
                }
                found.add(sign + ");");
                names.add(m.getName());
            } else {
                check(Modifier.isPrivate(m.getModifiers()), m + " is private");
            }
        }
        check(String.join("", found).equals(FACE), "the public methods are those of the document: " + found);
        for (Field f : BoundProofs.class.getDeclaredFields()) {
            boolean constant = Set.of("BAD", "STATE", "FULL", "NONE").contains(f.getName());
            check(constant ? Modifier.isPublic(f.getModifiers()) : Modifier.isPrivate(f.getModifiers()), f + " is as visible as it must be");
            check(!Modifier.isStatic(f.getModifiers()) || Modifier.isFinal(f.getModifiers()), f + " is final if static");
        }
        Constructor<?>[] constructors = BoundProofs.class.getDeclaredConstructors();
        check(constructors.length == 1 && Modifier.isPublic(constructors[0].getModifiers()), "there is one public constructor");
        check(Modifier.isFinal(BoundProofs.class.getModifiers()), "the class is final");
        int classes = 1;
        for (Class<?> inner : BoundProofs.class.getDeclaredClasses()) {
            classes++;
            check(Modifier.isStatic(inner.getModifiers()) && !Modifier.isPublic(inner.getModifiers()), inner + " is static and not public");
            for (Method m : inner.getDeclaredMethods()) {
                check(!names.contains(m.getName()), m + " has a name of its own");
                check(m.getParameterCount() <= 7, m + " has at most seven parameters");
            }
            check(inner.getDeclaredFields().length <= 20, inner + " has at most twenty fields");
        }
        check(classes <= 12, "there are at most twelve classes");
    }

    private static void source() throws IOException {
        String text = Files.readString(SOURCE);
        String code = text.replaceAll("(?s)/\\*.*?\\*/", "").replaceAll("//.*", "");
        String[] forbidden = {"throw", "throws", "try", "catch", "synchronized", "assert", "import", "package", "Exact",
            "hashCode", "equals", "Object", "System\\.(?!arraycopy)", "::", "->", "double", "float", "protected", "volatile", "native"};
        for (String word : forbidden) {
            String pattern = Character.isLetter(word.charAt(0)) && !word.contains(".") ? "\\b" + word + "\\b" : word;
            check(!Pattern.compile(pattern).matcher(code).find(), "the program does without " + word);
        }
        Matcher library = Pattern.compile("\\b(Math|Integer|Long|System|Arrays)\\.(\\w+)").matcher(code);
        Set<String> allowed = Set.of("Math.abs", "Math.min", "Math.max", "Math.floorDiv", "Integer.bitCount", "Integer.MAX_VALUE",
            "Long.compare", "System.arraycopy");
        while (library.find()) {
            check(allowed.contains(library.group()), library.group() + " is known to be allowed");
        }
        check(text.chars().allMatch(c -> c < 128), "the program has plain signs only");
        methodLengths(text);
    }

    /** Methods of the classes stand four or eight columns deep, and end with a brace at the same column. */
    private static void methodLengths(String text) {
        String[] lines = text.split("\n");
        for (int i = 0; i < lines.length; i++) {
            Matcher head = Pattern.compile("^( {4}| {8})(?!.*\\bclass\\b)\\S.*\\) \\{$").matcher(lines[i]);
            if (head.find()) {
                int end = i;
                while (!lines[end].equals(head.group(1) + "}")) {
                    end++;
                }
                check(end - i <= 60, "the method at line " + (i + 1) + " has at most sixty lines");
            }
        }
    }

    /** All calls after the first are made in the room that the object took when it was made. */
    private static void room() {
        com.sun.management.ThreadMXBean bean = (com.sun.management.ThreadMXBean) ManagementFactory.getThreadMXBean();
        long id = Thread.currentThread().getId();
        calls(new BoundProofs());
        long start = bean.getThreadAllocatedBytes(id);
        BoundProofs x = new BoundProofs();
        long made = bean.getThreadAllocatedBytes(id);
        calls(x);
        long end = bean.getThreadAllocatedBytes(id);
        check(made - start < 40_000, "an object takes less than 40,000 bytes: " + (made - start));
        check(end - made < 4_000, "500 calls make nothing: " + (end - made));
    }

    private static void calls(BoundProofs x) {
        for (int i = 0; i < 12; i++) {
            x.type("n3;fa+b-2c; ".charAt(i));
        }
        x.tells();
        for (int i = 0; i < 60; i++) {
            x.form(i % 4, 1, i % 3 - 1);
            x.asserts(i % 8, i % 5, i % 10);
            x.level();
            x.withdraws(1);
            x.keep(0);
            x.back(0);
            x.proof(0);
            x.relief(0);
            x.spared(1);
            x.range(0, 0);
            x.why(0, i % 5, 3);
            x.sample(2);
            x.value(0);
            x.count(4 + i % 2);
        }
    }

    public static void main(String[] args) throws IOException {
        face();
        source();
        room();
        System.out.println(wrong == 0 ? "all rules are kept" : wrong + " rules are broken");
        if (wrong != 0) {
            System.exit(1);
        }
    }
}
