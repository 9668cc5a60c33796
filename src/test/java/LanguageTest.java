import java.io.IOException;
import java.lang.reflect.Constructor;
import java.lang.reflect.Field;
import java.lang.reflect.Method;
import java.lang.reflect.Modifier;
import java.nio.charset.StandardCharsets;
import java.nio.file.Files;
import java.nio.file.Path;
import java.util.HashSet;
import java.util.Set;
import java.util.TreeSet;
import java.util.regex.Matcher;
import java.util.regex.Pattern;

/** The face of the class, and those rules of LANGUAGE.md that can be looked for in its text. */
public final class LanguageTest {
    private static final Checks c = new Checks();

    private static final String[] FACE = {
        "int ring(int)", "int step(int,int)", "int lumps(int,int,int)", "int moon(int,int,int,int)", "int type(long,int)",
        "int clear()", "int read()", "int round()", "int undo()", "int there(int,int)", "int about(int,int)",
        "int where(int,int,int,int)", "int loss(int)", "int pushes(int)", "int moved(int,int)", "int road(int,int,int)",
        "int back()", "int told(int,int)", "int taken(int,int)", "int game(int,int)", "int fee(int,int)", "long part(int)",
        "int image(int)", "int from(int)", "int status(int)", "int count(int)", "long digest()"};

    private static final String[] FORBIDDEN = {
        "throw", "throws", "try", "catch", "finally", "synchronized", "assert", "volatile", "native", "protected", "var",
        "package", "Object", "Random", "Thread", "Exception", "Override", "hashCode", "toString", "getClass", "HashMap",
        "Map", "Set", "Scanner", "strictfp", "transient", "sealed", "yield"};

    public static void main(String[] args) throws IOException {
        face();
        classesInside();
        source();
        c.end();
    }

    private static String signature(Method m) {
        StringBuilder s = new StringBuilder(m.getReturnType().getSimpleName()).append(' ').append(m.getName()).append('(');
        for (Class<?> p : m.getParameterTypes()) {
            if (s.charAt(s.length() - 1) != '(') s.append(',');
            s.append(p.getSimpleName());
        }
        return s.append(')').toString();
    }

    private static void face() {
        Class<?> x = RingShepherds.class;
        c.holds("public and final", Modifier.isPublic(x.getModifiers()) && Modifier.isFinal(x.getModifiers()));
        Set<String> seen = new TreeSet<>();
        for (Method m : x.getDeclaredMethods()) {
            if (Modifier.isPublic(m.getModifiers())) seen.add(signature(m));
            else c.holds(m.getName() + " is private", Modifier.isPrivate(m.getModifiers()));
        }
        c.holds("the public methods " + seen, seen.equals(new TreeSet<>(Set.of(FACE))));
        Constructor<?>[] made = x.getDeclaredConstructors();
        c.due("constructors", made.length, 1);
        c.holds("the constructor", Modifier.isPublic(made[0].getModifiers()) && made[0].getParameterCount() == 0);
        Set<String> constants = new TreeSet<>();
        for (Field f : x.getDeclaredFields()) {
            if (Modifier.isPublic(f.getModifiers())) constants.add(f.getName());
            else c.holds(f.getName() + " is private", Modifier.isPrivate(f.getModifiers()));
        }
        c.holds("the constants " + constants, constants.equals(new TreeSet<>(Set.of("NONE", "BAD", "NO", "FULL"))));
    }

    private static void classesInside() {
        Class<?> x = RingShepherds.class;
        Set<String> publicNames = new HashSet<>();
        for (String s : FACE) publicNames.add(s.substring(s.indexOf(' ') + 1, s.indexOf('(')));
        c.holds("some twelve classes", x.getDeclaredClasses().length + 1 <= 12);
        for (Class<?> inside : x.getDeclaredClasses()) {
            int is = inside.getModifiers();
            c.holds(inside + " is static", Modifier.isStatic(is));
            c.holds(inside + " is not seen outside", !Modifier.isPublic(is) && !Modifier.isProtected(is));
            c.due(inside + " holds no class", inside.getDeclaredClasses().length, 0);
            members(inside, publicNames);
        }
        members(x, publicNames);
    }

    private static void members(Class<?> x, Set<String> publicNames) {
        int own = 0;
        for (Field f : x.getDeclaredFields()) {
            int is = f.getModifiers();
            if (!Modifier.isStatic(is)) own++;
            else c.holds(f + " is final", Modifier.isFinal(is));
        }
        c.holds(x + " has at most twenty fields", own <= 20);
        for (Method m : x.getDeclaredMethods()) {
            c.holds(m + " takes at most seven", m.getParameterCount() <= 7);
            if (Modifier.isPrivate(m.getModifiers())) {
                c.holds(m + " bears no public name", !publicNames.contains(m.getName()));
            }
        }
    }

    private static void source() throws IOException {
        Path file = Path.of(System.getProperty("project.root", "."), "src/main/java/RingShepherds.java");
        String text = Files.readString(file, StandardCharsets.ISO_8859_1);
        c.holds("plain signs", text.chars().allMatch(ch -> ch == '\n' || ch >= 32 && ch < 127));
        String code = text.replaceAll("(?s)/\\*.*?\\*/", "").replaceAll("//[^\n]*", "")
            .replaceAll("\"[^\"\n]*\"", "\"\"").replaceAll("'[^'\n]*'", "0");
        for (String word : FORBIDDEN) {
            c.holds("no " + word, !Pattern.compile("\\b" + word + "\\b").matcher(code).find());
        }
        for (String sign : new String[] {"->", "::", "@", "Exact", "\" +", "+ \"", "[][][]"}) {
            c.holds("no " + sign, !code.contains(sign));
        }
        Matcher imports = Pattern.compile("import ([^;]+);").matcher(code);
        while (imports.find()) {
            c.holds("import " + imports.group(1), Set.of("java.util.Arrays", "java.util.ArrayList", "java.util.List")
                .contains(imports.group(1)));
        }
        Matcher library = Pattern.compile("\\b(System|Arrays|Math|Integer|Long|List)\\.(\\w+)").matcher(code);
        while (library.find()) {
            c.holds(library.group(), Set.of("arraycopy", "fill", "copyOf", "copyOfRange", "min", "max", "abs", "bitCount",
                "compare", "floorMod", "floorDiv").contains(library.group(2)));
        }
        methodsAreShort(text);
    }

    /** A method begins at a line that is indented by 4 or 8 and ends in "{"; it ends at "}" indented as much. */
    private static void methodsAreShort(String text) {
        String[] lines = text.split("\n");
        for (int i = 0; i < lines.length; i++) {
            if (!lines[i].matches("( {4}| {8})[\\w].*\\).*\\{")) continue;
            String indent = lines[i].startsWith("        ") ? "        " : "    ";
            int end = i;
            while (end < lines.length && !lines[end].equals(indent + "}")) end++;
            c.holds("a short method: " + lines[i].trim(), end - i < 60);
        }
    }
}
