import java.lang.reflect.Method;
import java.lang.reflect.Modifier;
import java.nio.charset.StandardCharsets;
import java.nio.file.Files;
import java.nio.file.Path;
import java.util.regex.Matcher;
import java.util.regex.Pattern;

/** The rows of README.md answer what stands behind them, and the page names each call of the face. */
public final class ReadmeTest {
    private static final Path README = Path.of("README.md");
    private static final Pattern ROW = Pattern.compile("office\\.(\\w+)\\(([^)]*)\\);\\s*// (-?\\d+).*");
    private static int wrong = 0;

    private static void need(boolean holds, String what) {
        if (!holds) {
            wrong++;
            System.out.println("ReadmeTest: " + what);
        }
    }

    public static void main(String[] args) throws Exception {
        String page = Files.readString(README, StandardCharsets.UTF_8);
        for (Method m : RateOffice.class.getDeclaredMethods()) {
            if (Modifier.isPublic(m.getModifiers())) {
                need(page.contains("`" + m.getName() + "`"), "the page does not name " + m.getName());
            }
        }
        int start = page.indexOf("```java");
        int rows = runRows(page.substring(start, page.indexOf("```", start + 3)));
        need(rows > 0, "the page has no rows");
        System.out.println(wrong == 0 ? "ReadmeTest: all " + rows + " rows are as due" : "ReadmeTest: " + wrong + " faults");
        if (wrong != 0) {
            System.exit(1);
        }
    }

    private static int runRows(String example) throws Exception {
        RateOffice office = new RateOffice();
        int rows = 0;
        for (String line : example.split("\n")) {
            if (!line.startsWith("office.")) {
                continue;
            }
            rows++;
            Matcher row = ROW.matcher(line);
            if (row.matches()) {
                long got = answer(office, row.group(1), row.group(2));
                need(got == Long.parseLong(row.group(3)), line + " answered " + got);
            } else {
                need(false, "not a call with its answer: " + line);
            }
        }
        return rows;
    }

    private static long answer(RateOffice office, String name, String written) throws Exception {
        String[] parts = written.isEmpty() ? new String[0] : written.split(", ");
        Class<?>[] types = new Class<?>[parts.length];
        Object[] values = new Object[parts.length];
        for (int i = 0; i < parts.length; i++) {
            types[i] = int.class;
            values[i] = Integer.decode(parts[i]);
        }
        return ((Number) RateOffice.class.getMethod(name, types).invoke(office, values)).longValue();
    }
}
