import java.io.IOException;
import java.lang.reflect.Constructor;
import java.lang.reflect.Field;
import java.lang.reflect.Method;
import java.lang.reflect.Modifier;
import java.nio.file.Files;
import java.nio.file.Path;
import java.util.Arrays;
import java.util.Set;
import java.util.TreeSet;
import java.util.regex.Matcher;
import java.util.regex.Pattern;

/** The public face, and what of LANGUAGE.md can be seen in the class and its text. Run from the project's root. */
public final class FaceTest {
    private static final String FACE = "step4 trace3 about2 write1 erase0 make1 clear0 knot2 part2 reaches2 ways1 wayAt2 "
        + "least2 leastWay2 many1 size1 chance1 weight2 best2 limbs1 limb2 guard2 holds2 leastGuards1 front1 frontAt3 "
        + "patrol0 catches3 game1 insider1 worst3 may3 ask3 event2 rest0 soon0 reached2 walk2 home1 stands2 begins2 end2 "
        + "orderAt3 image1 differ1 from1 count1 digest0";

    public static void main(String[] args) throws IOException {
        face();
        classesInside();
        source(Files.readString(Path.of("src/main/java/GuardNets.java")));
        Due.end();
    }

    private static void face() {
        Set<String> methods = new TreeSet<>();
        for (Method m : GuardNets.class.getDeclaredMethods()) {
            if (Modifier.isPrivate(m.getModifiers())) continue;
            Due.is("1 public " + m, m.getModifiers(), Modifier.PUBLIC);
            methods.add(m.getName() + m.getParameterCount());
            for (Class<?> type : m.getParameterTypes()) Due.is("1 parameters of " + m, type.getName(), "int");
            Due.is("1 answer of " + m, m.getReturnType().getName(), m.getName().equals("digest") ? "long" : "int");
        }
        Due.is("the methods", methods.toString(), new TreeSet<>(Arrays.asList(FACE.split(" "))).toString());
        Set<String> constants = new TreeSet<>();
        for (Field f : GuardNets.class.getDeclaredFields()) {
            if (!Modifier.isPrivate(f.getModifiers())) constants.add(Modifier.toString(f.getModifiers()) + " " + f.getType() + " " + f.getName());
        }
        String head = "public static final int ";
        Due.is("the constants", constants.toString(), "[" + head + "BAD, " + head + "FULL, " + head + "NO, " + head + "NONE, " + head + "SPENT]");
        Constructor<?>[] made = GuardNets.class.getDeclaredConstructors();
        Due.is("constructors", made.length, 1);
        Due.is("the constructor", made[0].toString(), "public GuardNets()");
        Due.is("the class", Modifier.toString(GuardNets.class.getModifiers()), "public final");
    }

    private static void classesInside() {
        Class<?>[] inside = GuardNets.class.getDeclaredClasses();
        Due.is("11 classes are some twelve", inside.length <= 12 ? 1 : 0, 1);
        Set<String> names = new TreeSet<>();
        for (String entry : FACE.split(" ")) names.add(entry.replaceAll("[0-9]", ""));
        for (Class<?> c : inside) {
            Due.is("1 static " + c, Modifier.isStatic(c.getModifiers()) ? 1 : 0, 1);
            Due.is("1 not public " + c, Modifier.isPublic(c.getModifiers()) ? 1 : 0, 0);
            int fields = 0;
            for (Field f : c.getDeclaredFields()) {
                if (!Modifier.isStatic(f.getModifiers())) fields++;
                else Due.is("5 final " + f, Modifier.isFinal(f.getModifiers()) ? 1 : 0, 1);
            }
            Due.is("11 fields of " + c + ": " + fields, fields <= 20 ? 1 : 0, 1);
            for (Method m : c.getDeclaredMethods()) {
                Due.is("1 no other method bears the name " + m, names.contains(m.getName()) ? 1 : 0, 0);
                Due.is("11 parameters of " + m, m.getParameterCount() <= 7 ? 1 : 0, 1);
            }
        }
    }

    private static void source(String text) {
        for (int i = 0; i < text.length(); i++) if (text.charAt(i) > 126) Due.is("3 a character at " + i, text.charAt(i), 0);
        String bare = text.replaceAll("(?s)/\\*.*?\\*/", "").replaceAll("//[^\n]*", "").replaceAll("'.'", "' '");
        String[] forbidden = {"\\bthrow\\b", "\\bthrows\\b", "\\btry\\b", "\\bcatch\\b", "\\bsynchronized\\b", "\\bassert\\b", "->", "::",
            "\\bpackage\\b", "\\bprotected\\b", "Exact\\b", "\\bdouble\\b", "\\bfloat\\b", "\\bvar\\b", "\\bObject\\b", "\\bString\\b",
            "\\bnew \\w+\\([^)]*\\) *\\{", "\\bnative\\b", "\\bSystem\\.(?!arraycopy)", "\\bArrays\\.(?!copyOf\\(|copyOfRange\\(|fill\\()",
            "\\bMath\\.(?!(max|min|abs)\\()", "\\bInteger\\.(?!bitCount\\()", "\\bLong\\.(?!bitCount\\()", "\\bstatic \\{"};
        for (String pattern : forbidden) {
            Matcher m = Pattern.compile(pattern).matcher(bare);
            if (m.find()) Due.is("the source has " + pattern + " at \"" + bare.substring(m.start(), Math.min(bare.length(), m.start() + 40)) + "\"", 1, 0);
        }
        Matcher imports = Pattern.compile("\\bimport ([^;]*);").matcher(bare);
        while (imports.find()) Due.is("4 import", imports.group(1), "java.util.Arrays");
        methodsStayShort(bare);
    }

    private static void methodsStayShort(String bare) {
        int from = 0, depth = 0;
        String[] lines = bare.split("\n");
        for (int i = 0; i < lines.length; i++) {
            String line = lines[i];
            boolean starts = line.endsWith(") {") && (line.startsWith("    ") && !line.startsWith("     ") || line.startsWith("        ") && !line.startsWith("         "));
            if (starts && depth <= 2) from = i;
            for (char c : line.toCharArray()) depth += c == '{' ? 1 : c == '}' ? -1 : 0;
            if (line.strip().equals("}") && i - from > 60 && depth == 1 && line.startsWith("    }") && lines[from].startsWith("    p")) {
                Due.is("11 lines of " + lines[from], i - from, 60);
            }
        }
    }
}
