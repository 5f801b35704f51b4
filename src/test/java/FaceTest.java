import java.lang.reflect.Constructor;
import java.lang.reflect.Field;
import java.lang.reflect.Member;
import java.lang.reflect.Method;
import java.lang.reflect.Modifier;
import java.nio.charset.StandardCharsets;
import java.nio.file.Files;
import java.nio.file.Path;
import java.util.ArrayList;
import java.util.List;
import java.util.Set;
import java.util.TreeSet;
import java.util.regex.Matcher;
import java.util.regex.Pattern;

/** The face is the document's and no more, and the source keeps to the rules that can be seen from outside. */
public final class FaceTest {
    private static final Path SOURCE = Path.of("src/main/java/RateOffice.java");
    private static final Path DOCUMENT = Path.of("../shared/DOC.md");
    // A method's first line, of the class itself or of one inside it, and not a block's.
    private static final Pattern METHOD =
            Pattern.compile(" {4}(?: {4})?(?!if |for |while |switch |do |try |[ /*}])[^=;]*\\(.*\\{");
    private static int wrong = 0;

    private static void need(boolean holds, String what) {
        if (!holds) {
            wrong++;
            System.out.println("FaceTest: " + what);
        }
    }

    public static void main(String[] args) throws Exception {
        checkFace();
        checkHidden();
        checkSource();
        checkSizes();
        checkMethodLengths();
        System.out.println(wrong == 0 ? "FaceTest: the face is as due" : "FaceTest: " + wrong + " faults");
        if (wrong != 0) {
            System.exit(1);
        }
    }

    private static void checkFace() throws Exception {
        Set<String> want = new TreeSet<>();
        String document = Files.readString(DOCUMENT, StandardCharsets.UTF_8);
        String face = document.substring(document.indexOf("```java"), document.indexOf("## Terms"));
        Matcher m = Pattern.compile("public (int|long) (\\w+)\\(([^)]*)\\)").matcher(face);
        while (m.find()) {
            want.add(m.group(1) + " " + m.group(2) + " " + (m.group(3).isEmpty() ? 0 : m.group(3).split(",").length));
        }
        Set<String> got = new TreeSet<>();
        for (Method method : RateOffice.class.getDeclaredMethods()) {
            if (Modifier.isPublic(method.getModifiers())) {
                got.add(method.getReturnType() + " " + method.getName() + " " + method.getParameterCount());
            }
        }
        need(want.size() == 44, "the document's face has 44 methods, read were " + want.size());
        need(got.equals(want), "the face has " + got + ", due is " + want);
        need(Modifier.isFinal(RateOffice.class.getModifiers()), "the class is final");
        need(RateOffice.class.getConstructors().length == 1, "there is one constructor");
        Method factor = RateOffice.class.getMethod("factor", int.class, int.class);
        need(factor.getExceptionTypes().length == 2, "factor tells what it throws");
    }

    /** No member but the face's is more than private, and no hidden method bears the name of one of the face. */
    private static void checkHidden() {
        List<Member> members = new ArrayList<>();
        members.addAll(List.of(RateOffice.class.getDeclaredFields()));
        members.addAll(List.of(RateOffice.class.getDeclaredMethods()));
        members.addAll(List.<Constructor<?>>of(RateOffice.class.getDeclaredConstructors()));
        Set<String> face = new TreeSet<>();
        for (Member m : members) {
            boolean open = Modifier.isPublic(m.getModifiers());
            need(open || Modifier.isPrivate(m.getModifiers()), m + " is neither public nor private");
            if (open && m instanceof Method) {
                face.add(m.getName());
            }
            need(!(open && m instanceof Field) || m.getName().equals("NONE"), m + " is public");
        }
        for (Method m : RateOffice.class.getDeclaredMethods()) {
            need(Modifier.isPublic(m.getModifiers()) || !face.contains(m.getName()), m + " bears a name of the face");
        }
        for (Class<?> c : RateOffice.class.getDeclaredClasses()) {
            need(Modifier.isStatic(c.getModifiers()), c + " is not static");
            for (Method m : c.getDeclaredMethods()) {
                need(!face.contains(m.getName()), m + " bears a name of the face");
            }
            for (Field f : c.getDeclaredFields()) {
                need(!Modifier.isStatic(f.getModifiers()) || Modifier.isFinal(f.getModifiers()), f + " is not final");
            }
        }
    }

    private static void checkSource() throws Exception {
        String source = Files.readString(SOURCE, StandardCharsets.UTF_8);
        for (String bad : List.of("catch", "finally", "Exact(", "->", "::", "synchronized", "assert ", "System.out",
                "System.currentTimeMillis", "System.nanoTime", "Random", "Thread", "getMessage", "while (true)")) {
            need(!source.contains(bad), "the source has " + bad);
        }
        Matcher imports = Pattern.compile("import ([^;]+);").matcher(source);
        while (imports.find()) {
            need(imports.group(1).equals("java.util.NoSuchElementException"), "import of " + imports.group(1));
        }
        // What is made stands in constructors and in fields alone: a call makes nothing but what it throws.
        Matcher made = Pattern.compile("(?m)^(.*)\\bnew (\\w+)").matcher(source);
        while (made.find()) {
            boolean thrown = made.group(1).contains("throw");
            boolean field = made.group(1).matches("\\s*final .*= ");
            boolean atConstruction = made.start() < source.indexOf("// ---- the tape and the text ----");
            need(thrown || field || atConstruction, "a call makes a " + made.group(2));
        }
    }

    /** LANGUAGE.md, rule 11: seven parameters, some twelve classes, some twenty fields beside the constants. */
    private static void checkSizes() {
        List<Class<?>> classes = new ArrayList<>(List.of(RateOffice.class.getDeclaredClasses()));
        classes.add(RateOffice.class);
        need(classes.size() <= 12, "there are " + classes.size() + " classes");
        for (Class<?> c : classes) {
            int fields = 0;
            for (Field f : c.getDeclaredFields()) {
                fields += Modifier.isStatic(f.getModifiers()) ? 0 : 1;
            }
            need(fields <= 20, c + " has " + fields + " fields");
            for (Method m : c.getDeclaredMethods()) {
                need(m.getParameterCount() <= 7, m + " has more than seven parameters");
            }
        }
    }

    /** LANGUAGE.md, rules 11 and 4: methods of some sixty lines, signs 1 to 127. */
    private static void checkMethodLengths() throws Exception {
        List<String> lines = Files.readAllLines(SOURCE, StandardCharsets.UTF_8);
        String opened = "";
        int from = 0;
        int methods = 0;
        for (int i = 0; i < lines.size(); i++) {
            String line = lines.get(i);
            need(line.chars().allMatch(c -> c > 0 && c < 128), "line " + (i + 1) + " has a sign beyond 127");
            if (METHOD.matcher(line).matches()) {
                opened = line.substring(0, line.length() - line.stripLeading().length());
                from = i;
                methods++;
            } else if (line.equals(opened + "}")) {
                need(i - from < 60, "a method of " + (i - from + 1) + " lines stands at line " + (from + 1));
            }
        }
        need(methods >= countMethods(), "seen were " + methods + " methods of " + countMethods());
    }

    /** Without constructors: the source need not have them. */
    private static int countMethods() {
        int n = RateOffice.class.getDeclaredMethods().length;
        for (Class<?> c : RateOffice.class.getDeclaredClasses()) {
            n += c.getDeclaredMethods().length;
        }
        return n;
    }
}
