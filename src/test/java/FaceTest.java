import java.io.IOException;
import java.lang.reflect.Constructor;
import java.lang.reflect.Field;
import java.lang.reflect.Method;
import java.lang.reflect.Modifier;
import java.nio.file.Files;
import java.nio.file.Path;
import java.util.ArrayList;
import java.util.List;
import java.util.Set;
import java.util.TreeSet;
import java.util.regex.Matcher;
import java.util.regex.Pattern;

/** The face of the class is the document's and no more, and its text keeps to what LANGUAGE.md leaves. */
public final class FaceTest {
    private static final String[] FACE = {
        "public int HawkRidge.post(int)",
        "public int HawkRidge.kind(int,int,int)",
        "public int HawkRidge.later()",
        "public int HawkRidge.tell(int,int,int,int,int)",
        "public boolean HawkRidge.off(int,int,int,boolean)",
        "public boolean HawkRidge.wind(int,int,int)",
        "public boolean HawkRidge.known(int)",
        "public int HawkRidge.partner(int)",
        "public int HawkRidge.bird(int)",
        "public int HawkRidge.birds(int,int,int) throws java.util.NoSuchElementException",
        "public int HawkRidge.year(int,int)",
        "public int HawkRidge.passage(int,int,int)",
        "public int HawkRidge.change(int,int)",
        "public int HawkRidge.look(int,int) throws java.util.NoSuchElementException",
        "public int HawkRidge.count(int)"};
    private static final String[] FORBIDDEN = {
        "->", "::", "Exact", "\\bfinally\\b", "\\bsynchronized\\b", "\\bassert\\b", "\\bcatch\\b", "\\btry\\b",
        "\\bSystem\\.(?!arraycopy)", "\\bThread\\b", "\\bRandom\\b", "\\bpackage\\b", "\\bprotected\\b",
        "\\bvar\\b", "\\bObject\\b", "\\bdouble\\b", "\\bfloat\\b", "static \\{", "\\bpublic static class\\b",
        "[^\\x00-\\x7f]"};
    /** All calls of a run share one room: so calls make nothing but what they throw. */
    private static final String MAY_MAKE = " {8}private final .* = new .*| {8}\\w+ = new .*| *throw new .*";
    private static int wrong = 0;

    private static void due(boolean holds, String what) {
        if (!holds) {
            wrong++;
            System.out.println("FaceTest: " + what);
        }
    }

    public static void main(String[] args) throws IOException {
        face();
        text(Files.readString(Path.of("src/main/java/HawkRidge.java")));
        System.out.println(wrong == 0 ? "FaceTest: all is as due" : wrong + " things are not as due");
        if (wrong != 0) {
            System.exit(1);
        }
    }

    private static void face() {
        Class<HawkRidge> c = HawkRidge.class;
        due(Modifier.isPublic(c.getModifiers()) && Modifier.isFinal(c.getModifiers()), "public and final");
        Set<String> names = new TreeSet<>();
        Set<String> found = new TreeSet<>();
        List<Method> own = new ArrayList<>();
        for (Method m : c.getDeclaredMethods()) {
            if (Modifier.isPrivate(m.getModifiers())) {
                own.add(m);
            } else {
                found.add(m.toGenericString());
                names.add(m.getName());
            }
        }
        due(found.equals(new TreeSet<>(List.of(FACE))), "the methods are " + found);
        for (Method m : own) {
            due(!names.contains(m.getName()), "private " + m.getName() + " bears the name of a public one");
        }
        for (Field f : c.getDeclaredFields()) {
            boolean isNone = f.getName().equals("NONE");
            due(isNone == Modifier.isPublic(f.getModifiers()), "field " + f);
            due(isNone || Modifier.isPrivate(f.getModifiers()), "field " + f);
        }
        Constructor<?>[] made = c.getDeclaredConstructors();
        due(made.length == 1 && made[0].toString().equals("public HawkRidge()"), "one constructor");
        due(HawkRidge.NONE == -1, "NONE");
        Class<?>[] inside = c.getDeclaredClasses();
        due(inside.length <= 11, "at most some twelve classes");
        for (Class<?> k : inside) {
            due(Modifier.isStatic(k.getModifiers()) && !Modifier.isPublic(k.getModifiers()), "class " + k);
            due(k.getDeclaredFields().length <= 20, "fields of " + k);
            for (Method m : k.getDeclaredMethods()) {
                due(m.getParameterCount() <= 7, "parameters of " + m);
                due(!names.contains(m.getName()), m + " bears the name of a public one");
            }
        }
    }

    private static void text(String text) {
        for (String pattern : FORBIDDEN) {
            Matcher m = Pattern.compile(pattern).matcher(text);
            due(!m.find(), "the text holds " + pattern);
        }
        Matcher imports = Pattern.compile("(?m)^import (.*);").matcher(text);
        while (imports.find()) {
            due(imports.group(1).equals("java.util.NoSuchElementException"), "import " + imports.group(1));
        }
        Matcher calls = Pattern.compile("\\b(Math|Integer|Long|Arrays|System)\\.(\\w+)").matcher(text);
        Set<String> allowed = Set.of("max", "min", "abs", "bitCount", "compare", "floorDiv", "floorMod", "arraycopy",
                "fill", "copyOf", "copyOfRange");
        while (calls.find()) {
            due(allowed.contains(calls.group(2)), "call of " + calls.group());
        }
        int length = 0;
        for (String line : text.split("\n")) {
            due(!line.contains("new ") || line.matches(MAY_MAKE), "made by a call, not once by a constructor: " + line);
            length = line.matches(" {4}( {4})?(private|public) .*\\{") ? 0 : length + 1;
            due(length <= 60 || line.isBlank(), "a method of over 60 lines at: " + line);
        }
    }
}
