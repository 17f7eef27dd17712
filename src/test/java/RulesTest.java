import java.io.IOException;
import java.lang.reflect.Constructor;
import java.lang.reflect.Field;
import java.lang.reflect.Method;
import java.lang.reflect.Modifier;
import java.nio.file.Files;
import java.nio.file.Path;
import java.util.ArrayList;
import java.util.List;
import java.util.TreeSet;
import java.util.regex.Matcher;
import java.util.regex.Pattern;

/** What of LANGUAGE.md and of the face can be seen from the source and from the compiled class. */
public final class RulesTest {
    private static final Due due = new Due("RulesTest");
    private static final String[] FACE = {
        "int person(int)", "int people(int,int,int)", "int mend(int,int,int)", "int of(int,int)", "int swap(int)",
        "int feed(int)", "int law()", "int turn()", "int open()", "int take(int)", "int goOn()", "int again()",
        "int anew()", "int led(int)", "int evening(int,int)", "int exact(int)", "int best(int)", "int pairs()",
        "int face(int)", "int numbers(int,int,int)", "int judge(int)", "int lots(int)", "int image()", "int back()",
        "int undo()", "int redo()", "int body(int)", "int act(int,int,int)", "int trace(int)", "int keep(int,int)",
        "int row(int,int,int)", "int put(int,int,long)", "long element(int,int)", "int shift(int,int,int,int,int)",
        "int taken(int,int)", "int count(int)"
    };

    public static void main(String[] args) throws IOException {
        face();
        members(OpenOrTake.class);
        String source = withoutTexts(Files.readString(Path.of(System.getProperty("source"))));
        words(source);
        calls(source);
        methods(source);
        due.end();
    }

    private static void face() {
        TreeSet<String> wanted = new TreeSet<>(List.of(FACE));
        TreeSet<String> found = new TreeSet<>();
        TreeSet<String> names = new TreeSet<>();
        for (Method method : OpenOrTake.class.getDeclaredMethods()) {
            if (Modifier.isPublic(method.getModifiers())) {
                String types = java.util.Arrays.toString(method.getParameterTypes()).replaceAll("[\\[\\] ]", "");
                found.add(method.getReturnType() + " " + method.getName() + "(" + types + ")");
                names.add(method.getName());
            }
        }
        due.is("the face is " + found, found.equals(wanted) ? 1 : 0, 1);
        for (Method method : OpenOrTake.class.getDeclaredMethods()) {
            boolean isPrivate = Modifier.isPrivate(method.getModifiers());
            due.is(method + " is public or private", isPrivate || Modifier.isPublic(method.getModifiers()) ? 1 : 0, 1);
            due.is(method + " bears a name of the face", isPrivate && names.contains(method.getName()) ? 1 : 0, 0);
        }
        Constructor<?>[] made = OpenOrTake.class.getDeclaredConstructors();
        due.is("constructors", made.length, 1);
        due.is("it is public", Modifier.isPublic(made[0].getModifiers()) ? 1 : 0, 1);
        due.is("final", Modifier.isFinal(OpenOrTake.class.getModifiers()) ? 1 : 0, 1);
        int publics = 0;
        for (Field field : OpenOrTake.class.getDeclaredFields()) {
            boolean open = Modifier.isPublic(field.getModifiers());
            due.is(field + " is public or private", open || Modifier.isPrivate(field.getModifiers()) ? 1 : 0, 1);
            publics += open ? 1 : 0;
        }
        due.is("constants", publics, 5);
    }

    private static void members(Class<?> outer) {
        int classes = 1;
        fields(outer);
        for (Class<?> inside : outer.getDeclaredClasses()) {
            classes++;
            due.is(inside + " is static", Modifier.isStatic(inside.getModifiers()) ? 1 : 0, 1);
            due.is(inside + " is not public", Modifier.isPublic(inside.getModifiers()) ? 1 : 0, 0);
            fields(inside);
        }
        due.is("at most twelve classes", classes <= 12 ? 1 : 0, 1);
    }

    private static void fields(Class<?> one) {
        int own = 0;
        for (Field field : one.getDeclaredFields()) {
            if (Modifier.isStatic(field.getModifiers())) {
                due.is(field + " is final", Modifier.isFinal(field.getModifiers()) ? 1 : 0, 1);
            } else {
                own++;
            }
        }
        due.is(one + " has at most twenty fields", own <= 20 ? 1 : 0, 1);
        for (Method method : one.getDeclaredMethods()) {
            due.is(method + " takes at most seven", method.getParameterCount() <= 7 ? 1 : 0, 1);
        }
    }

    /** Comments, texts and characters are left out. */
    private static String withoutTexts(String source) {
        return source.replaceAll("(?s)/\\*.*?\\*/", " ").replaceAll("//[^\n]*", " ")
                .replaceAll("\"(\\\\.|[^\"\\\\])*\"", "\"\"").replaceAll("'(\\\\.|[^'\\\\])'", "' '");
    }

    private static void words(String source) {
        String[] refused = {"(?m)^(?!\\s*(case|default)\\b).*->", "::", "\\bfinally\\b", "try\\s*\\(",
            "\\bsynchronized\\b", "\\bassert\\b", "\\bvar\\b", "\\bnative\\b", "\\bstatic\\s*\\{", "\\bpackage\\b",
            "\\bprotected\\b", "\\bObject\\b", "\\bRandom\\b", "\\bThread\\b", "while\\s*\\(true", "for\\s*\\(;;",
            "\\bextends \\w*Exception\\b", "\\bcatch\\s*\\([^)]*\\b(NullPointer|ArrayStore|ClassCast)Exception",
            "\\bcatch\\s*\\([^)]*\\b(ArrayIndexOutOfBounds|NegativeArraySize)Exception",
            "\\bcatch\\s*\\([^)]*\\b(Throwable|Error|Exception)\\b"};
        for (String word : refused) {
            due.is("found " + word, Pattern.compile(word).matcher(source).find() ? 1 : 0, 0);
        }
        List<String> allowed = List.of("java.util.Arrays", "java.util.ArrayList", "java.util.List",
                "java.util.Iterator", "java.util.NoSuchElementException");
        Matcher imported = Pattern.compile("import ([^;]+);").matcher(source);
        while (imported.find()) {
            due.is("import " + imported.group(1), allowed.contains(imported.group(1)) ? 1 : 0, 1);
        }
    }

    private static void calls(String source) {
        Matcher call = Pattern.compile("\\b(System|Arrays|Objects|Character|Collections)\\.\\w+|\\.\\w+Exact\\b")
                .matcher(source);
        List<String> allowed = List.of("System.arraycopy", "Arrays.fill", "Arrays.copyOf", "Arrays.copyOfRange");
        while (call.find()) {
            boolean imports = source.startsWith("java.util.", Math.max(0, call.start() - 10));
            due.is("used " + call.group(), imports || allowed.contains(call.group()) ? 1 : 0, 1);
        }
        // Rule 4 has functions of these; the one constant stands in the document.
        Matcher number = Pattern.compile("\\b(Integer|Long|Math)\\.(\\w+)(\\s*\\()?").matcher(source);
        while (number.find()) {
            boolean isFunction = number.group(3) != null && !number.group(2).endsWith("Exact");
            due.is("used " + number.group(), isFunction || number.group().equals("Long.MIN_VALUE") ? 1 : 0, 1);
        }
    }

    private static void methods(String source) {
        List<String> lines = new ArrayList<>(List.of(source.split("\n")));
        Pattern head = Pattern.compile("^( {4}| {8})\\S.*\\).*\\{$");
        for (int i = 0; i < lines.size(); i++) {
            Matcher method = head.matcher(lines.get(i));
            if (method.matches()) {
                int end = i;
                while (end < lines.size() && !lines.get(end).equals(method.group(1) + "}")) {
                    end++;
                }
                due.is("lines of " + lines.get(i).strip(), end - i <= 60 ? 1 : 0, 1);
            }
        }
    }
}
