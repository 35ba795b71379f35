import java.io.IOException;
import java.lang.reflect.Constructor;
import java.lang.reflect.Field;
import java.lang.reflect.Method;
import java.lang.reflect.Modifier;
import java.nio.file.Files;
import java.nio.file.Path;
import java.util.ArrayList;
import java.util.Arrays;
import java.util.List;
import java.util.Set;
import java.util.TreeSet;
import java.util.regex.Matcher;
import java.util.regex.Pattern;
import java.util.stream.Collectors;

/** The face of the class against the document's, and what LANGUAGE.md asks that can be seen by a search. */
public final class FigureKneeForm {
    private static final Path SOURCE = Path.of("src/main/java/FigureKnee.java");
    private static final Path DOCUMENT = Path.of("../shared/DOC.md");
    private static int wrong;

    public static void main(String[] args) throws IOException {
        face();
        privateNames();
        nestedClasses();
        sourceWords();
        methodLengths();
        System.out.println(wrong == 0 ? "the form is as due" : wrong + " things of the form are not as due");
        if (wrong != 0) {
            System.exit(1);
        }
    }

    private static void due(boolean good, String what) {
        if (!good) {
            wrong++;
            System.out.println("form: " + what);
        }
    }

    private static void face() throws IOException {
        Set<String> want = new TreeSet<>();
        Matcher m = Pattern.compile("(?m)^    (public [^=;]*\\))( throws NoSuchElementException)?;$").matcher(Files.readString(DOCUMENT));
        while (m.find()) {
            want.add(m.group(1).replaceAll("(int|boolean|long) \\w+(?=[,)])", "$1"));
        }
        Set<String> got = new TreeSet<>();
        for (Method method : FigureKnee.class.getDeclaredMethods()) {
            if (!Modifier.isPrivate(method.getModifiers())) {
                got.add(signature(method.getModifiers(), method.getReturnType().getName() + " " + method.getName(), method.getParameterTypes()));
            }
        }
        for (Constructor<?> constructor : FigureKnee.class.getDeclaredConstructors()) {
            got.add(signature(constructor.getModifiers(), "FigureKnee", constructor.getParameterTypes()));
        }
        due(want.size() == 60, "the document has sixty calls, found were " + want.size());
        due(want.equals(got), "the face is " + got + ", due is " + want);
        for (Field field : FigureKnee.class.getDeclaredFields()) {
            due(Modifier.isPrivate(field.getModifiers()) || field.getName().equals("NONE"), "field " + field.getName());
            due(!Modifier.isStatic(field.getModifiers()) || Modifier.isFinal(field.getModifiers()), "static " + field.getName());
        }
        due(Modifier.isFinal(FigureKnee.class.getModifiers()), "the class is final");
    }

    private static String signature(int modifiers, String name, Class<?>[] parameters) {
        String list = Arrays.stream(parameters).map(Class::getName).collect(Collectors.joining(", "));
        return Modifier.toString(modifiers) + " " + name + "(" + list + ")";
    }

    private static List<Class<?>> allClasses() {
        List<Class<?>> all = new ArrayList<>();
        all.add(FigureKnee.class);
        all.addAll(Arrays.asList(FigureKnee.class.getDeclaredClasses()));
        return all;
    }

    private static void privateNames() {
        Set<String> open = new TreeSet<>();
        for (Method method : FigureKnee.class.getMethods()) {
            if (method.getDeclaringClass() == FigureKnee.class) {
                open.add(method.getName());
            }
        }
        for (Class<?> each : allClasses()) {
            for (Method method : each.getDeclaredMethods()) {
                boolean isFace = each == FigureKnee.class && Modifier.isPublic(method.getModifiers());
                due(isFace || !open.contains(method.getName()), "rule 1: " + method);
                due(method.getParameterCount() <= 7, "rule 11: " + method);
            }
        }
    }

    private static void nestedClasses() {
        due(allClasses().size() <= 12, "rule 11: classes are " + allClasses().size());
        for (Class<?> each : allClasses()) {
            int fields = 0;
            for (Field field : each.getDeclaredFields()) {
                fields += Modifier.isStatic(field.getModifiers()) ? 0 : 1;
            }
            due(fields <= 20, "rule 11: fields of " + each + " are " + fields);
            due(each == FigureKnee.class || Modifier.isStatic(each.getModifiers()), "rule 1: " + each);
        }
    }

    private static void sourceWords() throws IOException {
        String code = Files.readString(SOURCE).replaceAll("(?s)/\\*.*?\\*/", "").replaceAll("//.*", "");
        String[] banned = {"->", "::", "\\bcatch\\b", "\\btry\\b", "\\bfinally\\b", "\\bsynchronized\\b", "\\bassert\\b",
            "Exact\\b", "\\bSystem\\.(?!arraycopy)", "\\bhashCode\\b", "\\btoString\\b", "\\bpackage\\b", "\\bvar\\b",
            "\\bString\\[\\]", "\\bstatic \\{", "\\bdouble\\b", "\\bfloat\\b", "\\bObject\\b"};
        for (String ban : banned) {
            due(!Pattern.compile(ban).matcher(code).find(), "the source has " + ban);
        }
        Matcher imports = Pattern.compile("(?m)^import (.*);").matcher(code);
        while (imports.find()) {
            due(Set.of("java.util.Arrays", "java.util.NoSuchElementException").contains(imports.group(1)), imports.group());
        }
        Matcher throwing = Pattern.compile("\\bthrow\\b.*").matcher(code);
        while (throwing.find()) {
            due(throwing.group().equals("throw new NoSuchElementException();"), throwing.group());
        }
        due(code.chars().allMatch(c -> c < 127), "signs above 126");
    }

    private static void methodLengths() throws IOException {
        List<String> lines = Files.readAllLines(SOURCE);
        String start = "";
        int from = 0;
        for (int i = 0; i < lines.size(); i++) {
            String line = lines.get(i);
            if (line.matches("( {4}| {8})(public|private|boolean|int|void|long|static).*\\{")) {
                start = line.replaceAll("\\S.*", "");
                from = i;
            }
            if (line.equals(start + "}") && !lines.get(from).contains(" class ")) {
                due(i - from <= 60, "rule 11: " + lines.get(from));
            }
            due(line.length() <= 120, "a long line: " + line);
        }
    }
}
