import java.lang.reflect.Constructor;
import java.lang.reflect.Field;
import java.lang.reflect.Method;
import java.lang.reflect.Modifier;
import java.nio.file.Files;
import java.nio.file.Path;
import java.util.List;
import java.util.Set;
import java.util.TreeSet;
import java.util.regex.Matcher;
import java.util.regex.Pattern;

/** The public face is the document's, and the source keeps to those rules of LANGUAGE.md that can be seen in its words. */
public final class LanguageTest {
    private static final List<String> FACE = List.of(
        "write 1", "wipe 0", "fault 0", "lay 0", "set 3", "tell 2", "take 1", "undo 0", "squares 1", "sign 2", "root 2",
        "law 2", "panel 2", "well 2", "counts 3", "plane 3", "planes 2", "cut 1", "board 2", "where 2", "best 2", "count 1");
    private static final List<String> CONSTANTS = List.of("BAD", "NO", "FULL", "NONE", "ONE");
    private static final String BANNED = "\\b(throw|throws|try|catch|synchronized|assert|package|protected|volatile"
        + "|Object|\\w*Exception|Random|\\w+Exact|hashCode|toString|equals|HashMap|Map|Set|Stream|Optional|var|Thread)\\b"
        + "|->|::|@|\\bstatic\\s*\\{|\\bnew \\w+\\([^;{}]*\\)\\s*\\{";
    /** Of the library only this is used; LANGUAGE.md rule 4 allows more. */
    private static final Pattern LIBRARY = Pattern.compile("\\b(Arrays|Math|Integer|Long|System|String|StringBuilder|List|ArrayList)\\b(\\.\\w+)?");
    private static final List<String> USED = List.of("Arrays", "Arrays.fill", "Math.max", "Math.min", "Integer.bitCount");
    private static final Set<Class<?>> STATIC_TYPES = Set.of(int.class, long.class, boolean.class, char.class, String.class,
        int[].class, long[].class, char[].class, byte[].class);
    private static final int LONGEST_METHOD = 60;
    private static int wrong = 0;

    public static void main(String[] args) throws Exception {
        face();
        nested();
        source();
        System.out.println(wrong == 0 ? "the face and the source are as they should be" : wrong + " faults");
        if (wrong != 0) System.exit(1);
    }

    private static void check(boolean holds, String fault) {
        if (holds) return;
        wrong++;
        System.out.println(fault);
    }

    private static void face() {
        Class<?> c = SoundWells.class;
        check(Modifier.isPublic(c.getModifiers()) && Modifier.isFinal(c.getModifiers()), "the class is not public and final");
        TreeSet<String> seen = new TreeSet<>();
        for (Method m : c.getDeclaredMethods()) {
            if (m.isSynthetic()) continue;
            if (Modifier.isPublic(m.getModifiers())) {
                seen.add(m.getName() + " " + m.getParameterCount());
                check(m.getReturnType() == int.class && !Modifier.isStatic(m.getModifiers()), m + " is not as told");
            } else {
                check(Modifier.isPrivate(m.getModifiers()), m + " is neither public nor private");
                for (String name : FACE) check(!name.startsWith(m.getName() + " "), m + " bears a public name");
            }
        }
        check(seen.equals(new TreeSet<>(FACE)), "the methods are " + seen);
        for (Constructor<?> k : c.getDeclaredConstructors()) {
            check(Modifier.isPublic(k.getModifiers()) && k.getParameterCount() == 0, k + " is not in the document");
        }
        for (Field f : c.getDeclaredFields()) {
            boolean told = CONSTANTS.contains(f.getName());
            check(told ? Modifier.isPublic(f.getModifiers()) : Modifier.isPrivate(f.getModifiers()), f + " has the wrong face");
            statics(f);
        }
    }

    private static void statics(Field f) {
        if (!Modifier.isStatic(f.getModifiers())) return;
        check(Modifier.isFinal(f.getModifiers()), f + " is static and not final");
        check(STATIC_TYPES.contains(f.getType()), f + " is static and neither a constant nor a row of numbers");
    }

    private static void nested() {
        check(SoundWells.class.getDeclaredClasses().length <= 12, "more than twelve classes");
        for (Class<?> c : SoundWells.class.getDeclaredClasses()) {
            check(Modifier.isStatic(c.getModifiers()), c + " is not static");
            check(!Modifier.isPublic(c.getModifiers()) && !Modifier.isProtected(c.getModifiers()), c + " is seen from outside");
            for (Field f : c.getDeclaredFields()) statics(f);
            check(c.getDeclaredFields().length <= 20, c + " has more than twenty fields");
            for (Method m : c.getDeclaredMethods()) {
                check(m.getParameterCount() <= 7, m + " takes more than seven");
                for (String name : FACE) check(!name.startsWith(m.getName() + " "), m + " bears a public name");
            }
        }
    }

    private static void source() throws Exception {
        String source = Files.readString(Path.of("src/main/java/SoundWells.java"));
        for (int i = 0; i < source.length(); i++) {
            if (source.charAt(i) > 126) check(false, "a sign that is not ASCII at " + i);
        }
        String bare = source.replaceAll("(?s)/\\*.*?\\*/", " ").replaceAll("//[^\\n]*", " ");
        Matcher banned = Pattern.compile(BANNED).matcher(bare);
        while (banned.find()) check(false, "the source has " + banned.group());
        Matcher imports = Pattern.compile("import ([^;]*);").matcher(bare);
        while (imports.find()) check(imports.group(1).equals("java.util.Arrays"), "the source imports " + imports.group(1));
        Matcher library = LIBRARY.matcher(bare);
        while (library.find()) check(USED.contains(library.group()), "the source uses " + library.group());
        methodLengths(source);
    }

    /** A method begins at a line that ends with ") {" and no word of a statement, and ends at the } below its first letter. */
    private static void methodLengths(String source) {
        String[] lines = source.split("\n");
        int methods = 0;
        for (int i = 0; i < lines.length; i++) {
            Matcher head = Pattern.compile("( {4}| {8})(?!if|for|while|switch|else|do|return)[\\w\\[\\]].*\\) \\{").matcher(lines[i]);
            if (!head.matches()) continue;
            int end = i;
            while (end < lines.length && !lines[end].equals(head.group(1) + "}")) end++;
            check(end - i + 1 <= LONGEST_METHOD, "a method of " + (end - i + 1) + " lines: " + lines[i].trim());
            methods++;
        }
        check(methods >= FACE.size(), "only " + methods + " methods were measured");
    }
}
