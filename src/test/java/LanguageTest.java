import java.lang.reflect.Constructor;
import java.lang.reflect.Field;
import java.lang.reflect.Method;
import java.lang.reflect.Modifier;
import java.nio.file.Files;
import java.nio.file.Path;
import java.util.List;
import java.util.TreeSet;
import java.util.regex.Matcher;
import java.util.regex.Pattern;

/** The public face is the document's, and the source keeps to those rules of LANGUAGE.md that can be seen in its words. */
public final class LanguageTest {
    private static final List<String> FACE = List.of(
        "write 1", "wipe 0", "fault 0", "lay 0", "set 3", "tell 2", "take 1", "undo 0", "squares 1", "sign 2", "root 2",
        "law 2", "panel 2", "well 2", "counts 3", "plane 3", "planes 2", "cut 1", "board 2", "where 2", "best 2", "count 1");
    private static final List<String> CONSTANTS = List.of("BAD", "NO", "FULL", "NONE", "ONE");
    private static final String BANNED = "\\b(throw|throws|try|catch|synchronized|assert|package|protected|volatile"
        + "|Object|Exception|Random|System\\.(out|err|in|nanoTime|currentTimeMillis|exit)|Exact|hashCode|toString"
        + "|HashMap|Map|Set|Stream|Optional|var)\\b|->|::|@";
    private static int wrong = 0;

    public static void main(String[] args) throws Exception {
        face();
        nested();
        source();
        System.out.println(wrong == 0 ? "the face and the source are as they should be" : wrong + " faults");
        if (wrong != 0) System.exit(1);
    }

    private static void check(boolean holds, String fault) {
        if (holds) return;
        wrong++;
        System.out.println(fault);
    }

    private static void face() {
        Class<?> c = SoundWells.class;
        check(Modifier.isPublic(c.getModifiers()) && Modifier.isFinal(c.getModifiers()), "the class is not public and final");
        TreeSet<String> seen = new TreeSet<>();
        for (Method m : c.getDeclaredMethods()) {
            if (m.isSynthetic()) continue;
            if (Modifier.isPublic(m.getModifiers())) {
                seen.add(m.getName() + " " + m.getParameterCount());
                check(m.getReturnType() == int.class && !Modifier.isStatic(m.getModifiers()), m + " is not as told");
            } else {
                check(Modifier.isPrivate(m.getModifiers()), m + " is neither public nor private");
                for (String name : FACE) check(!name.startsWith(m.getName() + " "), m + " bears a public name");
            }
        }
        check(seen.equals(new TreeSet<>(FACE)), "the methods are " + seen);
        for (Constructor<?> k : c.getDeclaredConstructors()) {
            check(Modifier.isPublic(k.getModifiers()) && k.getParameterCount() == 0, k + " is not in the document");
        }
        for (Field f : c.getDeclaredFields()) {
            boolean told = CONSTANTS.contains(f.getName());
            check(told ? Modifier.isPublic(f.getModifiers()) : Modifier.isPrivate(f.getModifiers()), f + " has the wrong face");
            check(!Modifier.isStatic(f.getModifiers()) || Modifier.isFinal(f.getModifiers()), f + " is static and not final");
        }
    }

    private static void nested() {
        check(SoundWells.class.getDeclaredClasses().length <= 12, "more than twelve classes");
        for (Class<?> c : SoundWells.class.getDeclaredClasses()) {
            check(Modifier.isStatic(c.getModifiers()), c + " is not static");
            check(c.getDeclaredFields().length <= 20, c + " has more than twenty fields");
            for (Method m : c.getDeclaredMethods()) {
                check(m.getParameterCount() <= 7, m + " takes more than seven");
                for (String name : FACE) check(!name.startsWith(m.getName() + " "), m + " bears a public name");
            }
        }
    }

    private static void source() throws Exception {
        String source = Files.readString(Path.of("src/main/java/SoundWells.java"));
        for (int i = 0; i < source.length(); i++) {
            if (source.charAt(i) > 126) check(false, "a sign that is not ASCII at " + i);
        }
        String bare = source.replaceAll("(?s)/\\*.*?\\*/", " ").replaceAll("//[^\\n]*", " ");
        Matcher banned = Pattern.compile(BANNED).matcher(bare);
        while (banned.find()) check(false, "the source has " + banned.group());
        Matcher imports = Pattern.compile("import ([^;]*);").matcher(bare);
        while (imports.find()) check(imports.group(1).equals("java.util.Arrays"), "the source imports " + imports.group(1));
    }
}
