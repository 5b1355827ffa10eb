import java.io.IOException;
import java.lang.reflect.Constructor;
import java.lang.reflect.Field;
import java.lang.reflect.Method;
import java.lang.reflect.Modifier;
import java.nio.file.Files;
import java.nio.file.Path;
import java.util.ArrayList;
import java.util.List;
import java.util.Set;
import java.util.TreeSet;
import java.util.regex.Matcher;
import java.util.regex.Pattern;

/** The face of the class is the document's, and its file keeps to the rules that can be seen in it. */
public final class FaceTest {
    private static final Path SOURCE = Path.of("src/main/java/MapGeneralizer.java");
    private static final Path DOCUMENT = Path.of("../shared/DOC.md");
    private static int wrong = 0;

    public static void main(String[] args) throws IOException {
        Class<?> face = MapGeneralizer.class;
        check("the class is public and final",
                Modifier.isPublic(face.getModifiers()) && Modifier.isFinal(face.getModifiers()));
        checkMembers(face);
        checkNamesOfNested(face);
        checkDocument(face);
        checkSource();
        System.out.println(wrong == 0 ? "the face is as due" : wrong + " things are not as due");
        if (wrong != 0) {
            System.exit(1);
        }
    }

    private static void check(String what, boolean isRight) {
        if (!isRight) {
            wrong++;
            System.out.println("not so: " + what);
        }
    }

    private static Set<String> publicNames(Class<?> face) {
        Set<String> names = new TreeSet<>();
        for (Method method : face.getDeclaredMethods()) {
            if (Modifier.isPublic(method.getModifiers())) {
                names.add(method.getName());
            }
        }
        return names;
    }

    private static void checkMembers(Class<?> face) {
        Set<String> names = publicNames(face);
        check("44 public methods", names.size() == 44);
        for (Method method : face.getDeclaredMethods()) {
            int modifiers = method.getModifiers();
            check(method + " is public or private", Modifier.isPublic(modifiers) || Modifier.isPrivate(modifiers));
            check(method + " bears a name of its own",
                    Modifier.isPublic(modifiers) || !names.contains(method.getName()));
            check(method + " has at most seven parameters", method.getParameterCount() <= 7);
        }
        int fields = 0;
        for (Field field : face.getDeclaredFields()) {
            int modifiers = field.getModifiers();
            check(field + " is private", Modifier.isPrivate(modifiers));
            check(field + " is final if static", !Modifier.isStatic(modifiers) || Modifier.isFinal(modifiers));
            fields += Modifier.isStatic(modifiers) ? 0 : 1;
        }
        check("at most twenty fields", fields <= 20);
        Constructor<?>[] constructors = face.getDeclaredConstructors();
        check("one public constructor without parameters", constructors.length == 1
                && Modifier.isPublic(constructors[0].getModifiers()) && constructors[0].getParameterCount() == 0);
    }

    private static void checkNamesOfNested(Class<?> face) {
        Set<String> names = publicNames(face);
        Class<?>[] nested = face.getDeclaredClasses();
        check("at most twelve classes", nested.length + 1 <= 12);
        for (Class<?> one : nested) {
            check(one + " is static and not public",
                    Modifier.isStatic(one.getModifiers()) && !Modifier.isPublic(one.getModifiers()));
            for (Method method : one.getDeclaredMethods()) {
                check(method + " bears a name of its own", !names.contains(method.getName()));
                check(method + " has at most seven parameters", method.getParameterCount() <= 7);
            }
        }
    }

    /** Every signature of the document's face stands in the class, with the exceptions in their order. */
    private static void checkDocument(Class<?> face) throws IOException {
        Set<String> asked = new TreeSet<>();
        Pattern signature = Pattern.compile("^    public (\\w+) (\\w+)\\((.*?)\\)(?: throws (.*))?;$");
        for (String line : Files.readAllLines(DOCUMENT)) {
            Matcher matcher = signature.matcher(line);
            if (matcher.matches()) {
                String types = matcher.group(3).replaceAll("(\\w+) \\w+", "$1");
                asked.add(matcher.group(1) + " " + matcher.group(2) + "(" + types + ")"
                        + (matcher.group(4) == null ? "" : " throws " + matcher.group(4)));
            }
        }
        Set<String> there = new TreeSet<>();
        for (Method method : face.getDeclaredMethods()) {
            if (Modifier.isPublic(method.getModifiers())) {
                List<String> types = new ArrayList<>();
                for (Class<?> type : method.getParameterTypes()) {
                    types.add(type.getSimpleName());
                }
                List<String> thrown = new ArrayList<>();
                for (Class<?> type : method.getExceptionTypes()) {
                    thrown.add(type.getSimpleName());
                }
                there.add(method.getReturnType().getSimpleName() + " " + method.getName() + "("
                        + String.join(", ", types) + ")"
                        + (thrown.isEmpty() ? "" : " throws " + String.join(", ", thrown)));
            }
        }
        check("the signatures are the document's: " + asked + " against " + there, asked.equals(there));
    }

    private static void checkSource() throws IOException {
        String source = Files.readString(SOURCE);
        String code = source.replaceAll("(?s)/\\*.*?\\*/", "").replaceAll("//[^\n]*", "");
        String[] ruledOut = {"\\btry\\b", "\\bcatch\\b", "\\bfinally\\b", "->", "::", "\\bsynchronized\\b",
            "\\bassert\\b", "Exact\\b", "\\bpackage\\b", "\\bstatic \\{", "\\bprotected\\b", "\\bMath\\.random\\b",
            "\\bSystem\\.(?!arraycopy\\b)", "\" \\+", "\\+ \"", "\\bObject\\b", "\\bvar\\b"};
        for (String part : ruledOut) {
            check("no " + part + " in the file", !Pattern.compile(part).matcher(code).find());
        }
        Matcher imports = Pattern.compile("(?m)^import (.*);$").matcher(code);
        while (imports.find()) {
            check("import " + imports.group(1) + " is allowed",
                    Set.of("java.util.Arrays", "java.util.NoSuchElementException").contains(imports.group(1)));
        }
        check("only characters 10 and 32 to 126", source.chars().allMatch(c -> c == 10 || c >= 32 && c <= 126));
    }
}
