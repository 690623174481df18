import java.lang.reflect.Method;
import java.lang.reflect.Modifier;
import java.nio.file.Files;
import java.nio.file.Path;
import java.util.regex.Matcher;
import java.util.regex.Pattern;

/** README.md tells of every call, and its example answers as it says. */
public final class ReadmeTest {
    private static final Pattern CALL = Pattern.compile("x\\.(\\w+)\\(([-0-9, ]*)\\);\\s*// (-?\\d+): .*");
    private static final Pattern WRITTEN = Pattern.compile("for \\(char c : \"([^\"]*)\"\\.toCharArray\\(\\)\\) x\\.write\\(c\\);");
    private static final Pattern MADE = Pattern.compile("SoundWells x = new SoundWells\\(\\);.*");
    private static int wrong = 0;

    public static void main(String[] args) throws Exception {
        String readme = Files.readString(Path.of("README.md"));
        int calls = example(readme);
        calls(readme);
        check(calls >= 20, "the example has only " + calls + " calls");
        System.out.println(wrong == 0 ? "README tells " + calls + " answers as they are" : wrong + " faults in README");
        if (wrong != 0) System.exit(1);
    }

    private static void check(boolean holds, String fault) {
        if (holds) return;
        wrong++;
        System.out.println("README.md: " + fault);
    }

    private static int example(String readme) throws Exception {
        int start = readme.indexOf("```java\n"), end = readme.indexOf("```", start + 3);
        if (start < 0 || end < 0) return 0;
        SoundWells x = new SoundWells();
        int calls = 0;
        for (String line : readme.substring(start + 8, end).split("\n")) {
            Matcher call = CALL.matcher(line), written = WRITTEN.matcher(line);
            if (call.matches()) {
                int got = answer(x, call.group(1), call.group(2).trim());
                check(got == Integer.parseInt(call.group(3)), line + " answered " + got);
                calls++;
            } else if (written.matches()) {
                for (char c : written.group(1).toCharArray()) x.write(c);
            } else {
                check(line.isBlank() || MADE.matcher(line).matches(), "a line that no test reads: " + line);
            }
        }
        return calls;
    }

    private static int answer(SoundWells x, String name, String numbers) throws Exception {
        String[] parts = numbers.isEmpty() ? new String[0] : numbers.split(",\\s*");
        Class<?>[] types = new Class<?>[parts.length];
        Object[] values = new Object[parts.length];
        for (int i = 0; i < parts.length; i++) {
            types[i] = int.class;
            values[i] = Integer.valueOf(parts[i]);
        }
        return (Integer) SoundWells.class.getMethod(name, types).invoke(x, values);
    }

    private static void calls(String readme) {
        for (Method m : SoundWells.class.getDeclaredMethods()) {
            if (!Modifier.isPublic(m.getModifiers())) continue;
            String names = m.getParameterCount() == 0 ? "" : "\\w+(, \\w+){" + (m.getParameterCount() - 1) + "}";
            boolean told = Pattern.compile("\\| `" + m.getName() + "\\(" + names + "\\)` \\|").matcher(readme).find();
            check(told, "nothing is told of " + m);
        }
    }
}
