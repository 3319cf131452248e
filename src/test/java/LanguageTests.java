import java.lang.reflect.Constructor;
import java.lang.reflect.Field;
import java.lang.reflect.Method;
import java.lang.reflect.Modifier;
import java.nio.file.Files;
import java.nio.file.Path;
import java.util.Arrays;
import java.util.HashSet;
import java.util.Set;
import java.util.TreeSet;
import java.util.regex.Matcher;
import java.util.regex.Pattern;

/** The rules of LANGUAGE.md that can be seen from the outside of the program or in its letters. */
public final class LanguageTests {
    private static final Check check = new Check("LanguageTests");
    private static final Path PROGRAM = Path.of("src/main/java/AlarmRing.java");
    private static final String[] FACE = {
        "write int", "wipe", "fault", "lay", "read int int", "wire int int", "day int", "tick int", "silence", "reset",
        "undo", "device int int", "stop int int int", "wireOf int int", "worst int", "help int", "zone int int",
        "effect int int", "count int"};
    private static final String[] FORBIDDEN = {
        "throw", "throws", "try", "catch", "finally", "synchronized", "assert", "volatile", "native", "transient",
        "equals", "hashCode", "toString", "package", "protected", "double", "float", "Object", "goto"};

    /** Of the library; what else is called by a class's name is a function of a class inside. */
    private static final Set<String> LIBRARY = Set.of("Integer.bitCount", "Math.max", "Math.min", "Arrays.fill", "System.arraycopy");
    private static final int MOST_FIELDS = 20;

    private LanguageTests() {
    }

    public static void main(String[] args) throws Exception {
        face();
        constants();
        nestedClasses();
        fewFields(AlarmRing.class);
        letters();
        check.end();
    }

    private static void face() {
        check.holds("public and final", Modifier.isPublic(AlarmRing.class.getModifiers())
            && Modifier.isFinal(AlarmRing.class.getModifiers()));
        Set<String> methods = new TreeSet<>();
        Set<String> publicNames = new HashSet<>();
        Set<String> privateNames = new HashSet<>();
        for (Method m : AlarmRing.class.getDeclaredMethods()) {
            if (Modifier.isPublic(m.getModifiers())) {
                StringBuilder told = new StringBuilder(m.getName());
                Arrays.stream(m.getParameterTypes()).forEach(t -> told.append(' ').append(t.getName()));
                methods.add(told.toString());
                publicNames.add(m.getName());
                check.holds(m.getName() + " answers an int", m.getReturnType() == int.class);
            } else {
                privateNames.add(m.getName());
                check.holds(m.getName() + " is private", Modifier.isPrivate(m.getModifiers()));
            }
        }
        check.holds("the methods are those of the document", methods.equals(new TreeSet<>(Arrays.asList(FACE))));
        privateNames.retainAll(publicNames);
        check.holds("no private method bears the name of a public one", privateNames.isEmpty());
        Constructor<?>[] constructors = AlarmRing.class.getDeclaredConstructors();
        check.holds("one constructor without parameters", constructors.length == 1
            && Modifier.isPublic(constructors[0].getModifiers()) && constructors[0].getParameterCount() == 0);
    }

    private static void constants() {
        Set<String> names = new TreeSet<>();
        for (Field f : AlarmRing.class.getDeclaredFields()) {
            if (Modifier.isPublic(f.getModifiers())) {
                names.add(f.getName());
            } else {
                check.holds(f.getName() + " is private", Modifier.isPrivate(f.getModifiers()));
            }
            staticIsFinal(f);
        }
        check.holds("the constants are those of the document",
            names.equals(new TreeSet<>(Arrays.asList("BAD", "NO", "FULL", "NONE"))));
    }

    private static void staticIsFinal(Field f) {
        check.holds(f.getName() + " is final if static",
            !Modifier.isStatic(f.getModifiers()) || Modifier.isFinal(f.getModifiers()));
    }

    private static void nestedClasses() {
        Class<?>[] nested = AlarmRing.class.getDeclaredClasses();
        check.holds("at most twelve classes", nested.length <= 11);
        for (Class<?> c : nested) {
            check.holds(c.getName() + " is static", Modifier.isStatic(c.getModifiers()));
            check.holds(c.getName() + " is neither public nor protected",
                !Modifier.isPublic(c.getModifiers()) && !Modifier.isProtected(c.getModifiers()));
            check.holds(c.getName() + " holds no class", c.getDeclaredClasses().length == 0);
            Arrays.stream(c.getDeclaredFields()).forEach(LanguageTests::staticIsFinal);
            fewFields(c);
            for (Method m : c.getDeclaredMethods()) {
                check.holds(m.getName() + " has at most seven parameters", m.getParameterCount() <= 7);
                check.holds(m.getName() + " is no name of the face",
                    Arrays.stream(FACE).noneMatch(told -> told.split(" ")[0].equals(m.getName())));
            }
        }
    }

    private static void fewFields(Class<?> c) {
        long fields = Arrays.stream(c.getDeclaredFields()).filter(f -> !Modifier.isStatic(f.getModifiers())).count();
        check.holds(c.getName() + " has " + fields + " fields", fields <= MOST_FIELDS);
    }

    private static void letters() throws Exception {
        String source = Files.readString(PROGRAM);
        check.holds("signs are 10 and 32 to 126", source.chars().allMatch(c -> c == 10 || c >= 32 && c <= 126));
        String code = source.replaceAll("(?s)/\\*.*?\\*/", "").replaceAll("//[^\n]*", "").replaceAll("\"[^\"]*\"", "\"\"");
        for (String word : FORBIDDEN) {
            check.holds("no " + word, !Pattern.compile("\\b" + word + "\\b").matcher(code).find());
        }
        check.holds("no lambda, no method reference", !code.contains("->") && !code.contains("::"));
        check.holds("no static initialiser", !Pattern.compile("\\bstatic\\s*\\{").matcher(code).find());
        check.holds("no Exact", !code.contains("Exact"));
        Matcher imports = Pattern.compile("(?m)^import (.*);$").matcher(code);
        while (imports.find()) {
            check.holds("import " + imports.group(1),
                Set.of("java.util.Arrays", "java.util.ArrayList", "java.util.List").contains(imports.group(1)));
        }
        library(code);
        shortMethods(code);
    }

    private static void library(String code) {
        Set<String> inside = new HashSet<>();
        Arrays.stream(AlarmRing.class.getDeclaredClasses()).forEach(c -> inside.add(c.getSimpleName()));
        Matcher calls = Pattern.compile("\\b([A-Z][a-z]\\w*)\\.(\\w+)\\(").matcher(code);
        int found = 0;
        while (calls.find()) {
            found++;
            check.holds("of the library " + calls.group(),
                inside.contains(calls.group(1)) || LIBRARY.contains(calls.group(1) + "." + calls.group(2)));
        }
        check.holds("calls of functions were found", found > 10);
    }

    private static void shortMethods(String code) {
        Matcher bodies = Pattern.compile("(?m)^( {4}| {8})(?! )[^\n=]*\\)(?: \\{)\n(.*?)^\\1\\}", Pattern.DOTALL | Pattern.MULTILINE)
            .matcher(code);
        int found = 0;
        while (bodies.find()) {
            found++;
            check.holds("a method of at most sixty lines", bodies.group(2).lines().count() <= 60);
        }
        check.holds("methods were found", found > 20);
    }
}
