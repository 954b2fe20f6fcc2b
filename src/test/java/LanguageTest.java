import java.io.IOException;
import java.lang.reflect.Constructor;
import java.lang.reflect.Field;
import java.lang.reflect.Method;
import java.lang.reflect.Modifier;
import java.nio.file.Files;
import java.nio.file.Path;
import java.util.ArrayList;
import java.util.Arrays;
import java.util.List;
import java.util.TreeSet;
import java.util.regex.Matcher;
import java.util.regex.Pattern;

/** What of ../shared/LANGUAGE.md and of the document's face a program can look at. */
public final class LanguageTest {
    private static final String[] FACE = {
        "int cap(int,int,int)", "int clear()", "int count(int)", "int diff(int,int,int,int)", "int drop()", "int empty()",
        "int feed(int)", "int fits(int,int,int)", "int flat(int)", "int gap(int,int,int)", "int idle(int,int)",
        "int image()", "int judge(int,int)", "int lay(int,int,int)", "int of(int,int)", "int overlap(int,int)",
        "int paid(int,int)", "int paper(int)", "int part(int,int,int)", "int put(int,int,int)", "int rack(int,int)",
        "int read()", "int rule(int,int)", "int says(int,int)", "int spell(int)", "int sum(int,int)", "int taken(int,int)",
        "int till(int,int,int,int)", "int two(int,int,int)", "int undo()", "int way(int)", "int when(int,int)",
        "int would(int,int,int,int)", "long get(int,int)", "long odds(int,int)"};

    public static void main(String[] args) throws IOException {
        face();
        constants();
        classesInside();
        fields();
        words();
        nothingIsMadeByCalls();
        sizes();
        Dues.end("LanguageTest");
    }

    private static List<Class<?>> all() {
        List<Class<?>> all = new ArrayList<>(Arrays.asList(TariffBoxes.class.getDeclaredClasses()));
        all.add(TariffBoxes.class);
        return all;
    }

    private static String told(Method method) {
        StringBuilder text = new StringBuilder(method.getReturnType().getName()).append(' ').append(method.getName());
        String separator = "(";
        for (Class<?> type : method.getParameterTypes()) {
            text.append(separator).append(type.getName());
            separator = ",";
        }
        return text.append(method.getParameterCount() == 0 ? "()" : ")").toString();
    }

    private static void face() {
        TreeSet<String> seen = new TreeSet<>();
        TreeSet<String> names = new TreeSet<>();
        for (Method method : TariffBoxes.class.getDeclaredMethods()) {
            if (Modifier.isPrivate(method.getModifiers())) {
                continue;
            }
            Dues.due("public: " + method, method.getModifiers(), Modifier.PUBLIC);
            seen.add(told(method));
            names.add(method.getName());
        }
        Dues.same("the face", seen.toString(), new TreeSet<>(Arrays.asList(FACE)).toString());
        for (Class<?> type : all()) {
            for (Method method : type.getDeclaredMethods()) {
                boolean borrowed = names.contains(method.getName()) && !Modifier.isPublic(method.getModifiers());
                Dues.same("the name of " + method, borrowed ? "a public one's" : "its own", "its own");
            }
        }
        Constructor<?>[] made = TariffBoxes.class.getDeclaredConstructors();
        Dues.due("constructors", made.length, 1);
        Dues.due("the constructor", made[0].getModifiers(), Modifier.PUBLIC);
        Dues.due("its parameters", made[0].getParameterCount(), 0);
        Dues.due("the class", TariffBoxes.class.getModifiers(), Modifier.PUBLIC | Modifier.FINAL);
    }

    private static void constants() {
        Dues.due("NONE", TariffBoxes.NONE, -1);
        Dues.due("BAD", TariffBoxes.BAD, -2);
        Dues.due("STATE", TariffBoxes.STATE, -3);
        Dues.due("FULL", TariffBoxes.FULL, -4);
        Dues.due("NOT", TariffBoxes.NOT, -5);
        Dues.due("NO", TariffBoxes.NO, Long.MIN_VALUE);
        TreeSet<String> seen = new TreeSet<>();
        for (Field field : TariffBoxes.class.getDeclaredFields()) {
            if (!Modifier.isPrivate(field.getModifiers())) {
                seen.add(field.getType() + " " + field.getName());
                Dues.due("modifiers of " + field, field.getModifiers(),
                    Modifier.PUBLIC | Modifier.STATIC | Modifier.FINAL);
            }
        }
        Dues.same("constants", seen.toString(), "[int BAD, int FULL, int NONE, int NOT, int STATE, long NO]");
    }

    private static void classesInside() {
        Class<?>[] inside = TariffBoxes.class.getDeclaredClasses();
        Dues.due("twelve classes at most", inside.length < 12 ? 1 : 0, 1);
        for (Class<?> type : inside) {
            Dues.due("static: " + type, type.getModifiers() & Modifier.STATIC, Modifier.STATIC);
            Dues.due("not public: " + type, type.getModifiers() & (Modifier.PUBLIC | Modifier.PROTECTED), 0);
            Dues.due("none within: " + type, type.getDeclaredClasses().length, 0);
        }
    }

    private static void fields() {
        for (Class<?> type : all()) {
            int many = 0;
            for (Field field : type.getDeclaredFields()) {
                if (Modifier.isStatic(field.getModifiers())) {
                    Dues.due("final: " + field, field.getModifiers() & Modifier.FINAL, Modifier.FINAL);
                } else {
                    many++;
                }
            }
            Dues.due("twenty fields at most: " + type, many <= 20 ? 1 : 0, 1);
            for (Method method : type.getDeclaredMethods()) {
                Dues.due("seven parameters at most: " + method, method.getParameterCount() <= 7 ? 1 : 0, 1);
            }
        }
    }

    /** The source without comments and without what stands in quotes. */
    private static String source() throws IOException {
        String text = new String(Files.readAllBytes(Path.of("src/main/java/TariffBoxes.java")), "ISO-8859-1");
        return text.replaceAll("(?s)/\\*.*?\\*/", "").replaceAll("//[^\n]*", "").replaceAll("'[^']+'", "' '")
            .replaceAll("\"[^\"]*\"", "\"\"");
    }

    private static void words() throws IOException {
        String source = source();
        String[] none = {"throw", "throws", "try", "catch", "finally", "synchronized", "assert", "import", "package",
            "volatile", "transient", "native", "default\\s*\\{", "Exact", "equals", "hashCode", "toString", "Object",
            "Thread", "currentTimeMillis", "nanoTime", "Random", "float", "double", "yield", "goto"};
        for (String word : none) {
            Matcher found = Pattern.compile("\\b" + word + "\\b").matcher(source);
            Dues.same("the word " + word, found.find() ? "there" : "not there", "not there");
        }
        for (String sign : new String[] {"->", "::", "@", "static {"}) {
            Dues.same("the sign " + sign, source.contains(sign) ? "there" : "not there", "not there");
        }
        Matcher library = Pattern.compile("\\b[A-Z][a-z]\\w*\\.\\w+").matcher(source);
        TreeSet<String> used = new TreeSet<>();
        while (library.find()) {
            used.add(library.group());
        }
        used.removeAll(Arrays.asList("Long.MIN_VALUE", "Math.max", "Math.min"));
        Dues.same("other classes' static members", used.toString(), "[]");
    }

    /** All calls of a run share one small room: objects and rows are made with the fields that hold them. */
    private static void nothingIsMadeByCalls() throws IOException {
        int made = 0;
        for (String text : source().split("\n")) {
            if (text.matches(".*\\bnew\\b.*")) {
                made++;
                Dues.same(text, text.matches(" {4}( {4})?(private )?final \\S+ \\w+ = new .*;") ? "a field" : "no field",
                    "a field");
            }
        }
        Dues.due("objects and rows are made", made > 20 ? 1 : 0, 1);
    }

    private static void sizes() throws IOException {
        int from = 0;
        int line = 0;
        for (String text : source().split("\n")) {
            line++;
            if (text.matches(" {4}( {4})?[a-zA-Z].*\\) \\{")) {
                from = line;
            } else if (text.matches(" {4}( {4})?\\}")) {
                Dues.due("sixty lines at most, to line " + line, line - from <= 60 || from == 0 ? 1 : 0, 1);
                from = 0;
            }
        }
    }
}
