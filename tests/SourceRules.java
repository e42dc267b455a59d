import java.lang.reflect.Field;
import java.lang.reflect.Method;
import java.lang.reflect.Modifier;
import java.nio.file.Files;
import java.nio.file.Path;
import java.util.Set;
import java.util.TreeSet;
import java.util.regex.Matcher;
import java.util.regex.Pattern;

/** Holds the class against its face in ../shared/DOC.md and against those rules of LANGUAGE.md that can be counted. */
public final class SourceRules {
    private static final String[] NEVER = {"import ", "package ", "->", "::", "try ", "catch", "finally", "synchronized",
        "assert ", "System.", "Exact", "record ", "var ", "Object ", ".hashCode", ".toString", "Thread", "protected ",
        "float ", "double ", "String ", " throw ", "transient", "native", "volatile"};

    private static int wrong = 0;

    private static void must(boolean holds, String rule) {
        if (!holds) {
            wrong++;
            System.out.println("source rules: " + rule);
        }
    }

    public static void main(String[] args) throws Exception {
        Path shared = Path.of(System.getProperty("shared", "../shared"));
        checkFace(Files.readString(shared.resolve("DOC.md")));
        checkClasses();
        checkText(Files.readString(Path.of("src/main/java/WorksCouncil.java")));
        System.out.println("source rules: " + wrong + " broken");
        if (wrong != 0) System.exit(1);
    }

    private static void checkFace(String document) {
        Set<String> face = new TreeSet<>();
        Matcher m = Pattern.compile("public int (\\w+)\\(([^)]*)\\);").matcher(document);
        while (m.find()) face.add(m.group(1) + "(" + m.group(2).replaceAll(" \\w+(,|$)", "$1").replace(" ", "") + ")");
        Set<String> own = new TreeSet<>();
        for (Method method : WorksCouncil.class.getDeclaredMethods()) {
            if (Modifier.isPrivate(method.getModifiers())) continue;
            StringBuilder types = new StringBuilder();
            for (Class<?> type : method.getParameterTypes()) types.append(types.length() > 0 ? "," : "").append(type);
            own.add(method.getName() + "(" + types + ")");
            must(Modifier.isPublic(method.getModifiers()) && method.getReturnType() == int.class, "1: " + method);
        }
        must(face.size() == 54, "the document's face has " + face.size() + " methods");
        must(face.equals(own), "1: the face is " + own + ", the document's " + face);
        must(Modifier.isFinal(WorksCouncil.class.getModifiers()), "1: not final");
        must(WorksCouncil.class.getConstructors().length == 1 && WorksCouncil.class.getDeclaredConstructors().length == 1,
                "1: constructors");
        for (Field field : WorksCouncil.class.getDeclaredFields()) {
            must(Modifier.isPrivate(field.getModifiers()), "1: " + field);
        }
    }

    private static void checkClasses() {
        Set<String> face = new TreeSet<>();
        for (Method method : WorksCouncil.class.getMethods()) {
            if (method.getDeclaringClass() == WorksCouncil.class) face.add(method.getName());
        }
        for (Method method : WorksCouncil.class.getDeclaredMethods()) {
            if (Modifier.isPrivate(method.getModifiers())) must(!face.contains(method.getName()), "1: private " + method);
        }
        Class<?>[] inside = WorksCouncil.class.getDeclaredClasses();
        must(inside.length + 1 <= 12, "11: " + (inside.length + 1) + " classes");
        for (Class<?> c : inside) {
            must(Modifier.isStatic(c.getModifiers()) && Modifier.isPrivate(c.getModifiers()), "1: " + c);
            for (Method method : c.getDeclaredMethods()) must(!face.contains(method.getName()), "1: " + method);
        }
        for (Class<?> c : inside) checkFields(c);
        checkFields(WorksCouncil.class);
    }

    private static void checkFields(Class<?> c) {
        int fields = 0;
        for (Field field : c.getDeclaredFields()) {
            if (Modifier.isStatic(field.getModifiers())) must(Modifier.isFinal(field.getModifiers()), "5: " + field);
            else fields++;
        }
        must(fields <= 20, "11: " + c + " has " + fields + " fields");
    }

    private static void checkText(String source) {
        String code = source.replaceAll("(?s)/\\*.*?\\*/", "").replaceAll("//[^\n]*", "");
        for (String word : NEVER) must(!code.contains(word), "not in the language: " + word);
        for (int i = 0; i < source.length(); i++) must(source.charAt(i) < 128, "a sign above 127");
        Matcher m = Pattern.compile("(?m)^( {4}| {8})(\\w[^;={}]*)\\(([^)]*)\\) \\{$").matcher(code);
        int methods = 0;
        while (m.find()) {
            methods++;
            int end = code.indexOf("\n" + m.group(1) + "}\n", m.end());
            int lines = code.substring(m.start(), end).split("\n").length;
            must(lines <= 60, "11: " + m.group(2) + " has " + lines + " lines");
            must(m.group(3).split(",").length <= 7, "11: parameters of " + m.group(2));
        }
        must(methods > 100, "only " + methods + " methods were found to look at");
    }
}
