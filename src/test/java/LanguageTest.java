import java.io.IOException;
import java.lang.reflect.Field;
import java.lang.reflect.Method;
import java.lang.reflect.Modifier;
import java.nio.file.Files;
import java.nio.file.Path;
import java.util.Arrays;
import java.util.HashSet;
import java.util.List;
import java.util.Set;
import java.util.TreeSet;
import java.util.regex.Pattern;

/** The public face of the document, and those rules of LANGUAGE.md that names and types can tell. */
public final class LanguageTest {
    private static final Path SOURCE = Path.of("src/main/java/OlderFirstHeap.java");
    private static final List<String> FACE = List.of(
        "boolean held(int)", "boolean same(int, int)", "int copyRoot(int, int)", "int distance(int, int)",
        "int drop(int)", "int load(int, int, int)", "int make(int, int)", "int payload(int)", "int reachable()",
        "int reachableFrom(int)", "int setPayload(int, int)", "int store(int, int, int)", "int sum()",
        "void collect()");
    private static final List<String> CONSTANTS = List.of("BAD_FIELD", "BAD_ROOT", "FULL", "NOTHING");
    private static final Set<Class<?>> TYPES = Set.of(int.class, long.class, short.class, byte.class, char.class,
        boolean.class, int[].class, long[].class, short[].class, byte[].class, char[].class, boolean[].class);
    private static final List<String> BANNED_WORDS = List.of(
        "package", "import", "throw", "throws", "try", "catch", "finally", "synchronized", "assert", "instanceof",
        "null", "float", "double", "enum", "interface", "record", "protected", "var", "String", "Math", "Integer",
        "Long", "System", "Arrays", "Object", "super", "native", "volatile", "transient");

    private LanguageTest() {
    }

    public static void main(String[] args) throws IOException {
        Class<?> type = OlderFirstHeap.class;
        Check.due("rule 1: public", Modifier.isPublic(type.getModifiers()), true);
        Check.due("rule 1: final", Modifier.isFinal(type.getModifiers()), true);
        Check.due("rule 1: nested classes", type.getDeclaredClasses().length, 0);
        Check.due("rule 1: constructors", type.getDeclaredConstructors().length, 1);
        Check.due("rule 1: public constructors", type.getConstructors().length, 1);
        Check.due("the constructor takes one int",
            Arrays.equals(type.getDeclaredConstructors()[0].getParameterTypes(), new Class<?>[] {int.class}), true);
        methods(type);
        fields(type);
        source(Files.readString(SOURCE));
        Check.end();
    }

    private static void methods(Class<?> type) {
        Set<String> face = new TreeSet<>();
        Set<String> publicNames = new HashSet<>();
        for (Method method : type.getDeclaredMethods()) {
            if (Modifier.isPublic(method.getModifiers())) {
                face.add(signature(method));
                publicNames.add(method.getName());
            }
            Check.due("rule 10: parameters of " + method.getName(), method.getParameterCount() <= 7, true);
            Check.due("rule 2: parameter types of " + method.getName(),
                TYPES.containsAll(List.of(method.getParameterTypes())), true);
            Check.due("rule 4: " + method.getName() + " answers no array", method.getReturnType().isArray(), false);
        }
        same("public methods", face, FACE);
        for (Method method : type.getDeclaredMethods()) {
            boolean shown = Modifier.isPublic(method.getModifiers());
            boolean hidden = Modifier.isPrivate(method.getModifiers());
            Check.due("rule 1: public or private " + method.getName(), shown || hidden, true);
            Check.due("rule 1: private name " + method.getName(),
                hidden && publicNames.contains(method.getName()), false);
        }
    }

    private static void fields(Class<?> type) {
        Set<String> constants = new TreeSet<>();
        int own = 0;
        for (Field field : type.getDeclaredFields()) {
            int modifiers = field.getModifiers();
            if (Modifier.isPublic(modifiers)) {
                constants.add(field.getName());
                Check.due("public constant int " + field.getName(),
                    field.getType() == int.class && Modifier.isStatic(modifiers), true);
            } else {
                Check.due("rule 1: private " + field.getName(), Modifier.isPrivate(modifiers), true);
            }
            Check.due("rule 2: type of " + field.getName(), TYPES.contains(field.getType()), true);
            if (field.getType().isArray()) {
                Check.due("rule 4: final array " + field.getName(), Modifier.isFinal(modifiers), true);
            }
            if (Modifier.isStatic(modifiers)) {
                boolean plain = field.getType() == int.class || field.getType() == long.class;
                Check.due("rule 5: constant " + field.getName(), plain && Modifier.isFinal(modifiers), true);
            } else {
                own++;
            }
        }
        same("public constants", constants, CONSTANTS);
        Check.due("rule 10: fields", own <= 40, true);
    }

    private static void source(String text) {
        String code = text.replaceAll("(?s)/\\*.*?\\*/", " ").replaceAll("//[^\n]*", " ");
        for (String word : BANNED_WORDS) {
            boolean found = Pattern.compile("\\b" + word + "\\b").matcher(code).find();
            Check.due("rules 2, 3, 4, 6: the word " + word, found, false);
        }
        Check.due("rule 6: lambda or method reference", code.contains("->") || code.contains("::"), false);
    }

    private static String signature(Method method) {
        StringBuilder parameters = new StringBuilder();
        for (Class<?> parameter : method.getParameterTypes()) {
            parameters.append(parameters.length() == 0 ? "" : ", ").append(parameter.getSimpleName());
        }
        return method.getReturnType().getSimpleName() + " " + method.getName() + "(" + parameters + ")";
    }

    private static void same(String what, Set<String> got, List<String> want) {
        if (!got.equals(new TreeSet<>(want))) {
            Check.report(what + " are " + got + ", due are " + Arrays.toString(want.toArray()));
        }
    }
}
