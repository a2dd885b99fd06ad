import java.io.IOException;
import java.lang.reflect.Array;
import java.lang.reflect.Constructor;
import java.lang.reflect.Field;
import java.lang.reflect.Method;
import java.lang.reflect.Modifier;
import java.nio.file.Files;
import java.nio.file.Path;
import java.util.ArrayDeque;
import java.util.Arrays;
import java.util.Deque;
import java.util.List;
import java.util.Map;
import java.util.Set;
import java.util.TreeMap;
import java.util.TreeSet;
import java.util.regex.Matcher;
import java.util.regex.Pattern;

// The public face of the document, and those rules of LANGUAGE.md that can be seen from the class's
// members or looked up in its text. It is run from the project's folder, as .ci/run does.
public final class LanguageTest {
    private static final Path SOURCE = Path.of("src/main/java/TightDomains.java");

    private static final Set<String> FACE = Set.of(
            "int domain(int, int)", "int allow(int, int, int)", "int capacity(int, int)",
            "boolean fillable()", "int most()", "int support(int)", "int prune()", "int first(int)",
            "int count()", "int exhausted()", "int unused()", "int lack()", "int tight()",
            "int spareable()", "int missing()");

    // Rules 1, 2, 3, 4 and 6: none of these may stand in the text outside comments.
    private static final String[] FORBIDDEN_WORDS = {
            "package", "import", "interface", "enum", "record", "float", "double", "null", "throw",
            "throws", "try", "catch", "synchronized", "assert", "instanceof", "protected", "native",
            "extends", "implements", "equals", "hashCode", "toString", "getClass", "clone",
            "finalize", "notify", "notifyAll", "wait", "length"};
    private static final String[] FORBIDDEN_SIGNS = {"->", "::", "\"", "'", "[][]", "@"};

    private static final Set<String> NOT_CALLS = Set.of("if", "for", "while", "switch", "return");

    private static int wrong = 0;

    private static void due(boolean holds, String rule) {
        if (!holds) {
            wrong++;
            System.out.println("not kept: " + rule);
        }
    }

    // Rule 2; void is among the primitive types, as it should be for methods.
    private static boolean isAllowed(Class<?> type) {
        Class<?> single = type.isArray() ? type.getComponentType() : type;
        return single.isPrimitive() && single != float.class && single != double.class;
    }

    private static void lookAtFace() {
        Class<?> type = TightDomains.class;
        int modifiers = type.getModifiers();
        due(Modifier.isPublic(modifiers) && Modifier.isFinal(modifiers), "the class is public and final");
        due(type.getSuperclass() == Object.class && type.getInterfaces().length == 0, "the class stands alone");
        due(type.getDeclaredClasses().length == 0, "no nested class");
        Constructor<?>[] constructors = type.getDeclaredConstructors();
        due(constructors.length == 1 && Modifier.isPublic(constructors[0].getModifiers())
                && constructors[0].getParameterCount() == 0, "one public constructor without arguments");
    }

    private static void lookAtMethods() {
        Set<String> found = new TreeSet<>();
        Set<String> publicNames = new TreeSet<>();
        for (Method m : TightDomains.class.getDeclaredMethods()) {
            due(m.getParameterCount() <= 7, "at most seven parameters: " + m.getName());
            if (Modifier.isPublic(m.getModifiers())) {
                String parameters = Arrays.toString(m.getParameterTypes());
                found.add(m.getReturnType() + " " + m.getName() + parameters.replace('[', '(').replace(']', ')'));
                publicNames.add(m.getName());
                due(!Modifier.isStatic(m.getModifiers()), "no public static method: " + m.getName());
            }
        }
        due(found.equals(FACE), "the public methods are those of the document, not " + found);
        for (Method m : TightDomains.class.getDeclaredMethods()) {
            int modifiers = m.getModifiers();
            due(Modifier.isPublic(modifiers) || Modifier.isPrivate(modifiers), "public or private: " + m.getName());
            due(Modifier.isPublic(modifiers) || !publicNames.contains(m.getName()), "a name of its own: " + m.getName());
            due(!m.getReturnType().isArray(), "no array answered: " + m.getName());
            due(isAllowed(m.getReturnType()), "a type of rule 2 answered: " + m.getName());
            for (Class<?> parameter : m.getParameterTypes()) {
                due(isAllowed(parameter), "parameters of the types of rule 2: " + m.getName());
            }
        }
    }

    private static void lookAtFields() {
        Set<String> publicNames = new TreeSet<>();
        int beside = 0;
        for (Field f : TightDomains.class.getDeclaredFields()) {
            int modifiers = f.getModifiers();
            if (Modifier.isPublic(modifiers)) {
                publicNames.add(f.getType() + " " + f.getName());
            }
            due(Modifier.isPublic(modifiers) || Modifier.isPrivate(modifiers), "public or private: " + f.getName());
            due(isAllowed(f.getType()), "a type of rule 2: " + f.getName());
            due(!f.getType().isArray() || Modifier.isFinal(modifiers), "no method assigns to " + f.getName());
            if (Modifier.isStatic(modifiers)) {
                due(Modifier.isFinal(modifiers) && (f.getType() == int.class || f.getType() == long.class),
                        "a static field is a constant of int or long: " + f.getName());
            } else {
                beside++;
            }
        }
        due(publicNames.equals(Set.of("int BAD_ARG", "int NONE")), "the public constants are those of the document");
        due(beside <= 40, "at most forty fields beside the constants");
    }

    private static void lookAtWords(String text) {
        for (String word : FORBIDDEN_WORDS) {
            due(!Pattern.compile("\\b" + word + "\\b").matcher(text).find(), "without the word " + word);
        }
        for (String sign : FORBIDDEN_SIGNS) {
            due(!text.contains(sign), "without the sign " + sign);
        }
    }

    // Rules 2, 3, 6 and 11: a type that is no number type, or anything of the library, would stand
    // here with a name in capitals and small letters.
    private static void lookAtNames(String text) {
        Matcher name = Pattern.compile("\\b[A-Z]\\w*").matcher(text);
        while (name.find()) {
            boolean constant = name.group().matches("[A-Z_]+");
            due(constant || name.group().equals("TightDomains"), "without the name " + name.group());
        }
        due(count("\\bTightDomains\\b", text) == 2, "the class's name at its head and its constructor alone");
    }

    // Rule 1.
    private static void lookAtFile(String text) throws IOException {
        due(count("\\bclass\\b", text) == 1, "one class in the file");
        try (var files = Files.walk(SOURCE.getParent())) {
            due(files.filter(Files::isRegularFile).toList().equals(List.of(SOURCE)), "one file");
        }
    }

    // Rule 5. What is static is a constant reckoned from numbers and constants, or a private method.
    private static void lookAtStatics(String text) {
        long constants = count("(?m)^    (public|private) static final (int|long) [A-Z_]+ = [-+*<>() A-Z_\\d]+;$", text);
        long methods = count("(?m)^    private static \\w+ \\w+\\([^)]*\\) \\{$", text);
        due(count("\\bstatic\\b", text) == constants + methods, "static constants and private methods alone");
    }

    // Rule 4, more narrowly than it says: arrays are fields made in their initialisers, and their
    // names stand before an index alone, so none is answered, compared, handed on or named anew.
    private static void lookAtArrays(String text) throws ReflectiveOperationException {
        long made = count("(?m)^    private final \\w+\\[\\] \\w+ = new \\w+\\[[A-Z_]+\\];$", text);
        due(count("\\bnew\\b", text) == made, "arrays are made in fields' initialisers alone");
        due(count("\\[\\s*\\]", text) == made, "no array but the fields");
        TightDomains x = new TightDomains();
        for (Field f : TightDomains.class.getDeclaredFields()) {
            if (f.getType().isArray()) {
                f.setAccessible(true);
                due(Array.getLength(f.get(x)) >= 1, "a length of 1 or more: " + f.getName());
                due(count("\\b" + f.getName() + "\\b(?!\\[)", text) == 1, "with an index: " + f.getName());
            }
        }
    }

    private static long count(String pattern, String text) {
        return Pattern.compile(pattern).matcher(text).results().count();
    }

    // Rules 7 and 8, more narrowly than they say: each loop counts up to a constant, nothing divides.
    private static void lookAtLoops(String text) {
        long loops = count("\\b(for|while|do)\\b", text);
        long counted = count("\\bfor \\(int (\\w+) = \\d+; \\1 <=? [A-Z_]+; \\1\\+\\+\\) \\{", text);
        due(loops > 0 && loops == counted, "every loop counts up to a constant");
        due(!text.contains("/") && !text.contains("%"), "nothing divides");
    }

    // Rule 10. A word before a bracket is a call, or the head of a method, which has no calls in it.
    private static void lookAtCalls(String text) {
        Deque<Boolean> open = new ArrayDeque<>();
        String word = "";
        for (int at = 0; at < text.length(); at++) {
            char c = text.charAt(at);
            if (Character.isJavaIdentifierPart(c)) {
                word += c;
            } else if (c == '(') {
                boolean call = !word.isEmpty() && !NOT_CALLS.contains(word);
                due(!call || !open.contains(true), "no call inside a call's arguments: " + word);
                open.push(call);
                word = "";
            } else if (c == ')') {
                open.pop();
                word = "";
            } else if (!Character.isWhitespace(c) || !NOT_CALLS.contains(word)) {
                word = "";
            }
        }
    }

    // Rules 8 and 10. A method starts at four blanks and ends at a line of four blanks and a brace.
    private static void lookAtMethodBodies(String text) {
        Matcher found = Pattern.compile("(?ms)^    \\w[^;=\\n]*?(\\w+)\\([^)]*\\) \\{$(.*?)^    \\}$").matcher(text);
        Map<String, String> bodies = new TreeMap<>();
        while (found.find()) {
            bodies.put(found.group(1), found.group(2));
            due(found.group(2).lines().count() <= 60, "at most sixty lines: " + found.group(1));
        }
        int declared = TightDomains.class.getDeclaredMethods().length + 1;
        due(bodies.size() == declared, "every method is looked at: " + bodies.size() + " of " + declared);
        for (String name : bodies.keySet()) {
            due(depthOf(name, bodies, 1) <= 6, "no recursion, and calls at most six deep: " + name);
        }
    }

    private static int depthOf(String name, Map<String, String> bodies, int depth) {
        int deepest = depth;
        for (String called : bodies.keySet()) {
            boolean calls = Pattern.compile("\\b" + called + "\\(").matcher(bodies.get(name)).find();
            // Beyond seven it is too deep already, and recursion would have no end.
            if (calls && depth < 7) {
                deepest = Math.max(deepest, depthOf(called, bodies, depth + 1));
            }
        }
        return deepest;
    }

    public static void main(String[] args) throws IOException, ReflectiveOperationException {
        String source = Files.readString(SOURCE);
        String text = source.replaceAll("(?s)/\\*.*?\\*/", "").replaceAll("//[^\\n]*", "");
        lookAtFace();
        lookAtMethods();
        lookAtFields();
        lookAtFile(text);
        lookAtWords(text);
        lookAtNames(text);
        lookAtStatics(text);
        lookAtArrays(text);
        lookAtLoops(text);
        lookAtCalls(text);
        lookAtMethodBodies(text);
        System.out.println(wrong == 0 ? "every rule looked at is kept" : wrong + " rules are not kept");
        if (wrong != 0) {
            System.exit(1);
        }
    }
}
