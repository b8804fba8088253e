import java.io.IOException;
import java.lang.reflect.Constructor;
import java.lang.reflect.Executable;
import java.lang.reflect.Field;
import java.lang.reflect.Method;
import java.lang.reflect.Modifier;
import java.nio.file.Files;
import java.nio.file.Path;
import java.util.ArrayList;
import java.util.List;
import java.util.regex.Matcher;
import java.util.regex.Pattern;

/** The class keeps to those rules of LANGUAGE.md that can be seen in its text or in what it declares. */
public final class LanguageTest {
    private static final Report REPORT = new Report();
    private static final int MOST_CLASSES = 12;
    private static final int MOST_FIELDS = 20;
    private static final int MOST_PARAMETERS = 7;
    private static final int MOST_LINES = 60;

    private static void due(String rule, String what, boolean isKept) {
        REPORT.due("rule " + rule, what, isKept ? "kept" : "broken", "kept");
    }

    private static void dueNone(String rule, String text, String... forms) {
        for (String form : forms) {
            due(rule, "no " + form, !Pattern.compile(form).matcher(text).find());
        }
    }

    private static void dueEach(String rule, String text, String form, String allowed) {
        Matcher found = Pattern.compile(form).matcher(text);
        while (found.find()) {
            due(rule, found.group(), found.group().matches(allowed));
        }
    }

    private static String withoutComments(String text) {
        return text.replaceAll("(?s)/\\*.*?\\*/", "").replaceAll("//[^\\n]*", "");
    }

    private static void dueText(String text) {
        dueNone("the file", text, "(?m)^package\\b");
        dueNone("2", text, "->", "::");
        dueEach("4", text, "import [^;]+;", "import java\\.util\\.(ArrayList|List|Arrays|Iterator);");
        dueEach("4", text, "\\bSystem\\.\\w+", "System\\.arraycopy");
        dueEach("4", text, "\\bArrays\\.\\w+", "Arrays\\.(fill|copyOf|copyOfRange)");
        dueNone("4", text, "Exact\\(", "\\bjava\\.(?!util\\.)");
        dueNone("5", text, "\\bstatic\\s*\\{");
        dueEach("6", text, "\\bthrow\\b[^;]*;", "throw new ArithmeticException\\(\"[^\"]*\"\\);");
        dueNone("6", text, "\\btry\\b", "\\bcatch\\b", "\\bfinally\\b", "\\bsynchronized\\b", "\\bassert\\b");
        dueNone("6", text, "\\.equals\\(", "\\bhashCode\\b", "\\btoString\\b");
        dueNone("9", text, "\\btrue\\)", "for \\(;", ";;");
        dueNone("13", text, "\\bRandom\\b", "\\brandom\\b", "currentTimeMillis", "nanoTime", "\\bThread\\b", "getenv");
    }

    /** A member begins at a brace of its class; its last line is the brace that closes it. */
    private static void dueShort(List<String> lines) {
        int begun = 0;
        for (int number = 0; number < lines.size(); number++) {
            String line = lines.get(number);
            boolean isMember = line.matches("( {4}| {8})(public|private|[A-Z]|int|void|boolean|long).*\\) .*\\{");
            if (isMember) {
                begun = number;
            }
            if (line.matches("( {4}| {8})\\}")) {
                due("11", "lines " + (begun + 1) + " to " + (number + 1), number - begun < MOST_LINES);
            }
        }
    }

    /** What a call makes is never given back, so rows are made in constructors alone. */
    private static void dueMadeInConstructors(List<String> lines) {
        boolean isConstructor = false;
        for (String line : lines) {
            if (line.matches(" +(public )?(ShopRules|Shop|Plan|Filling|Bounds)\\(.*\\) \\{")) {
                isConstructor = true;
            } else if (line.matches("( {4}| {8})\\}")) {
                isConstructor = false;
            }
            if (line.matches(".*\\bnew\\b.*")) {
                boolean isField = line.matches(" +(private )?final [\\w\\[\\]]+ \\w+ = new .*");
                due("12", line.trim(), isConstructor || isField || line.contains("throw new"));
            }
        }
    }

    private static List<Class<?>> allClasses(Class<?> outer) {
        List<Class<?>> classes = new ArrayList<>(List.of(outer));
        for (Class<?> inside : outer.getDeclaredClasses()) {
            classes.addAll(allClasses(inside));
        }
        return classes;
    }

    private static void dueDeclared(Class<?> type) {
        int fields = 0;
        for (Field field : type.getDeclaredFields()) {
            boolean isStatic = Modifier.isStatic(field.getModifiers());
            due("5", field + " is no static state", !isStatic || Modifier.isFinal(field.getModifiers()));
            due("5", field + " is a constant", !isStatic || field.getType().isPrimitive());
            fields += isStatic ? 0 : 1;
        }
        due("11", type + " has few fields", fields <= MOST_FIELDS);
        for (Method method : type.getDeclaredMethods()) {
            dueParameters(method);
        }
        for (Constructor<?> maker : type.getDeclaredConstructors()) {
            dueParameters(maker);
            due("6", maker + " throws nothing", maker.getExceptionTypes().length == 0);
        }
    }

    private static void dueParameters(Executable called) {
        due("11", called + " takes few", called.getParameterCount() <= MOST_PARAMETERS);
    }

    public static void main(String[] args) throws IOException {
        String text = withoutComments(Files.readString(Path.of("src/main/java/ShopRules.java")));
        List<String> lines = List.of(text.split("\n"));
        dueText(text);
        dueShort(lines);
        dueMadeInConstructors(lines);
        List<Class<?>> classes = allClasses(ShopRules.class);
        due("11", "few classes", classes.size() <= MOST_CLASSES);
        for (Class<?> type : classes) {
            dueDeclared(type);
        }
        REPORT.end();
    }
}
