import java.lang.reflect.Field;
import java.lang.reflect.Method;
import java.lang.reflect.Modifier;
import java.nio.file.Files;
import java.nio.file.Path;
import java.util.List;
import java.util.Set;
import java.util.TreeSet;
import java.util.regex.Matcher;
import java.util.regex.Pattern;

/** Those rules of ../shared/LANGUAGE.md that can be seen from the text or by reflection. */
public final class RulesTest {
    private static final String SOURCE = "src/main/java/SearchEngine.java";
    private static final Set<String> FACE = new TreeSet<>(List.of("int feed(long,long,int)", "int add(long,int,int)",
        "boolean delete(long)", "int refresh()", "int open()", "int close(int)", "int search(int)", "long key(int)",
        "int hit(int,int)", "int bucket(int,int,int)", "long over(int,int)", "int mark(int,int,boolean)",
        "int near(int)", "int nearByte(int)", "int segment(int,int)", "int view(int,int)", "int frequency(int,int)",
        "int told(int)"));
    private static final Set<String> NO_WORDS = Set.of("throw", "throws", "try", "catch", "finally", "synchronized",
        "assert", "import", "package", "double", "float", "Object", "native", "volatile", "transient", "equals",
        "hashCode", "toString");
    private static final Set<String> LIBRARY = Set.of("Math.min", "Math.max", "Math.abs", "System.arraycopy");

    public static void main(String[] args) throws Exception {
        String source = Files.readString(Path.of(SOURCE));
        checkText(withoutTexts(source));
        checkLengths(source);
        checkFace();
        checkClass(SearchEngine.class);
        for (Class<?> inside : SearchEngine.class.getDeclaredClasses()) {
            check(Modifier.isStatic(inside.getModifiers()), "static: " + inside);
            check(!Modifier.isPublic(inside.getModifiers()), "not public: " + inside);
            checkClass(inside);
        }
        check(SearchEngine.class.getDeclaredClasses().length <= 11, "twelve classes");
        Calls.end("RulesTest");
    }

    private static void check(boolean holds, String rule) {
        if (!holds) {
            Calls.wrong++;
            System.out.println("broken: " + rule);
        }
    }

    private static String withoutTexts(String source) {
        return source.replaceAll("(?s)/\\*.*?\\*/", "").replaceAll("//[^\n]*", "")
            .replaceAll("\"(\\\\.|[^\"\\\\])*\"", "TEXT").replaceAll("'(\\\\.|[^'\\\\])'", "SIGN");
    }

    private static void checkText(String code) {
        Matcher words = Pattern.compile("[A-Za-z_]+").matcher(code);
        while (words.find()) {
            check(!NO_WORDS.contains(words.group()), "no " + words.group());
            check(!words.group().endsWith("Exact"), "no " + words.group());
        }
        check(!code.contains("->") && !code.contains("::"), "no lambda, no method reference");
        check(!Pattern.compile("static\\s*\\{").matcher(code).find(), "no static initialiser");
        check(!Pattern.compile("TEXT\\s*\\+|\\+\\s*TEXT").matcher(code).find(), "no joining of texts by +");
        Matcher calls = Pattern.compile("\\b(Math|System|Integer|Long|Arrays|String|List|Character)\\.\\w+").matcher(code);
        while (calls.find()) {
            check(LIBRARY.contains(calls.group()), "no " + calls.group());
        }
    }

    private static void checkLengths(String source) {
        int header = -1;
        String indent = "";
        String[] lines = source.split("\n");
        for (int i = 0; i < lines.length; i++) {
            check(lines[i].length() <= 120, "a long line: " + (i + 1));
            check(lines[i].chars().allMatch(c -> c >= 32 && c < 127), "another sign: " + (i + 1));
            Matcher begin = Pattern.compile("^( {4}| {8})[A-Za-z].*\\) \\{$").matcher(lines[i]);
            if (begin.matches()) {
                header = i;
                indent = begin.group(1);
            } else if (header >= 0 && lines[i].equals(indent + "}")) {
                check(i - header < 60, "a long method: " + lines[header].trim());
                header = -1;
            }
        }
    }

    private static String told(Method method) {
        StringBuilder text = new StringBuilder(method.getReturnType() + " " + method.getName() + "(");
        for (Class<?> type : method.getParameterTypes()) {
            text.append(text.charAt(text.length() - 1) == '(' ? "" : ",").append(type);
        }
        return text.append(")").toString();
    }

    private static void checkFace() {
        Set<String> face = new TreeSet<>();
        Set<String> names = new TreeSet<>();
        for (Method method : SearchEngine.class.getDeclaredMethods()) {
            if (Modifier.isPublic(method.getModifiers())) {
                face.add(told(method));
                names.add(method.getName());
            }
        }
        check(face.equals(FACE), "the face: " + face);
        for (Method method : SearchEngine.class.getDeclaredMethods()) {
            boolean isPublic = Modifier.isPublic(method.getModifiers());
            check(isPublic || Modifier.isPrivate(method.getModifiers()), "private: " + method);
            check(isPublic || !names.contains(method.getName()), "no public one's name: " + method);
        }
        for (Field field : SearchEngine.class.getDeclaredFields()) {
            boolean told = Set.of("NONE", "BAD", "FULL").contains(field.getName());
            check(told ? Modifier.isPublic(field.getModifiers()) : Modifier.isPrivate(field.getModifiers()),
                "private: " + field);
        }
        check(Modifier.isFinal(SearchEngine.class.getModifiers()), "a final class");
        check(SearchEngine.class.getConstructors().length == 1, "one constructor");
    }

    private static void checkClass(Class<?> type) {
        int own = 0;
        for (Field field : type.getDeclaredFields()) {
            if (!Modifier.isStatic(field.getModifiers())) {
                own++;
            } else {
                check(Modifier.isFinal(field.getModifiers()), "final: " + field);
                check(field.getType().isPrimitive() || field.getType() == String.class, "a constant: " + field);
            }
        }
        check(own <= 20, "some twenty fields: " + type);
        for (Method method : type.getDeclaredMethods()) {
            check(method.getParameterCount() <= 7, "seven parameters: " + method);
        }
    }
}
