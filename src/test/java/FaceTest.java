import java.io.IOException;
import java.lang.reflect.Constructor;
import java.lang.reflect.Field;
import java.lang.reflect.Method;
import java.lang.reflect.Modifier;
import java.nio.file.Files;
import java.nio.file.Path;
import java.util.LinkedHashMap;
import java.util.Map;
import java.util.Set;
import java.util.TreeSet;
import java.util.regex.Matcher;
import java.util.regex.Pattern;

/** The public face, and those rules of LANGUAGE.md that can be looked up in the class or its text. */
public final class FaceTest extends Checks {
    private static final String[] FACE = {
        "int push(int,int)", "int pop()", "int put(int,int,int)", "int drop()", "void clear()",
        "int tune(int,int)", "int statements()", "int weight()", "int weightOf(int,int)",
        "int joint(int,int,int,int)", "int expected(int)", "int top(int,int)", "int bottom(int,int)",
        "int independent(int,int)", "long visits(int)", "int follow(int)", "int greatest()",
        "int likely(int)"};

    private static final String[] FORBIDDEN = {
        "import", "package", "float", "double", "String", "Math", "Integer", "Long", "System", "Arrays",
        "Object", "null", "throw", "throws", "try", "catch", "finally", "synchronized", "assert",
        "instanceof", "enum", "interface", "record", "protected", "hashCode", "equals", "toString",
        "getClass"};

    private static final Pattern CALL = Pattern.compile("\\b([a-z]\\w*)\\(");
    private static final Set<String> KEYWORDS = Set.of("if", "for", "while", "switch", "return", "do");

    public static void main(String[] args) throws IOException {
        members();
        fields();
        String text = withoutComments(Files.readString(Path.of(args[0])));
        words(text);
        arrays(text);
        Map<String, String> methods = methods(text);
        holds("the methods are found in the text", methods.size() > FACE.length);
        nestedCalls(text);
        callDepth(methods);
        finish();
    }

    private static void members() {
        Class<?> c = ChancePrograms.class;
        holds("public and final", c.getModifiers() == (Modifier.PUBLIC | Modifier.FINAL));
        holds("no parent and no interface", c.getSuperclass() == Object.class && c.getInterfaces().length == 0);
        holds("no nested class", c.getDeclaredClasses().length == 0);
        Constructor<?>[] constructors = c.getDeclaredConstructors();
        holds("one public constructor without parameters", constructors.length == 1
                && constructors[0].getModifiers() == Modifier.PUBLIC && constructors[0].getParameterCount() == 0);
        Set<String> got = new TreeSet<>();
        Set<String> publicNames = new TreeSet<>();
        for (Method m : c.getDeclaredMethods()) {
            if (m.getModifiers() == Modifier.PUBLIC) {
                got.add(signature(m));
                publicNames.add(m.getName());
            }
        }
        holds("the public methods are those of the document: " + got, got.equals(new TreeSet<>(Set.of(FACE))));
        for (Method m : c.getDeclaredMethods()) {
            boolean hidden = Modifier.isPrivate(m.getModifiers());
            holds("private or of the face: " + m, hidden || m.getModifiers() == Modifier.PUBLIC);
            holds("its name is not one of the face: " + m, !hidden || !publicNames.contains(m.getName()));
            holds("at most seven parameters: " + m, m.getParameterCount() <= 7);
        }
    }

    private static String signature(Method m) {
        StringBuilder parameters = new StringBuilder();
        for (Class<?> type : m.getParameterTypes()) {
            parameters.append(parameters.length() == 0 ? "" : ",").append(type.getSimpleName());
        }
        return m.getReturnType().getSimpleName() + " " + m.getName() + "(" + parameters + ")";
    }

    private static void fields() {
        int own = 0;
        for (Field f : ChancePrograms.class.getDeclaredFields()) {
            Class<?> type = f.getType();
            holds("private: " + f, Modifier.isPrivate(f.getModifiers()));
            if (Modifier.isStatic(f.getModifiers())) {
                holds("a constant of int or long: " + f,
                        Modifier.isFinal(f.getModifiers()) && (type == int.class || type == long.class));
            } else {
                own++;
                Class<?> base = type.isArray() ? type.getComponentType() : type;
                holds("a number or an array of numbers: " + f,
                        base.isPrimitive() && base != float.class && base != double.class);
                holds("an array that stays: " + f, !type.isArray() || Modifier.isFinal(f.getModifiers()));
            }
        }
        holds("at most forty fields", own <= 40);
    }

    private static String withoutComments(String text) {
        return text.replaceAll("(?s)/\\*.*?\\*/", "").replaceAll("//[^\n]*", "");
    }

    private static void words(String text) {
        for (String word : FORBIDDEN) {
            holds("the text has no " + word, !Pattern.compile("\\b" + word + "\\b").matcher(text).find());
        }
        for (String sign : new String[] {"\"", "->", "::", "@", "static {"}) {
            holds("the text has no " + sign, !text.contains(sign));
        }
        holds("one class", text.split("\\bclass\\b", -1).length == 2);
    }

    private static void arrays(String text) {
        Pattern made = Pattern.compile("    private final (\\w+)\\[\\] \\w+ = new \\1\\[[A-Z_]+\\];");
        for (String line : text.split("\n")) {
            holds("made in a field's initialiser: " + line, !line.matches(".*\\bnew\\b.*") || made.matcher(line).matches());
        }
    }

    /** The bodies of the methods by name; each begins and ends with a line that is four deep. */
    private static Map<String, String> methods(String text) {
        Map<String, String> methods = new LinkedHashMap<>();
        Pattern head = Pattern.compile("    (?:public|private) (?:static )?\\w+ (\\w+)\\(.*\\) \\{");
        String name = "";
        StringBuilder body = new StringBuilder();
        for (String line : text.split("\n")) {
            Matcher m = head.matcher(line);
            if (m.matches()) {
                name = m.group(1);
                body.setLength(0);
            } else if (line.equals("    }") && !name.isEmpty()) {
                holds("no second method of the name " + name, !methods.containsKey(name));
                holds("a short method: " + name, body.toString().split("\n").length <= 60);
                methods.put(name, body.toString());
                name = "";
            } else {
                body.append(line).append('\n');
            }
        }
        return methods;
    }

    private static void nestedCalls(String text) {
        Matcher m = CALL.matcher(text);
        while (m.find()) {
            if (KEYWORDS.contains(m.group(1))) {
                continue;
            }
            int depth = 1;
            int end = m.end();
            while (depth > 0) {
                depth += text.charAt(end) == '(' ? 1 : text.charAt(end) == ')' ? -1 : 0;
                end++;
            }
            String inside = text.substring(m.end(), end);
            holds("no call inside a call: " + m.group(1) + "(" + inside, !CALL.matcher(inside).find());
        }
    }

    private static void callDepth(Map<String, String> methods) {
        Map<String, Set<String>> calls = new LinkedHashMap<>();
        methods.forEach((name, body) -> {
            Set<String> called = new TreeSet<>();
            Matcher m = CALL.matcher(body);
            while (m.find()) {
                if (!KEYWORDS.contains(m.group(1))) {
                    holds("a method of the class: " + m.group(1), methods.containsKey(m.group(1)));
                    called.add(m.group(1));
                }
            }
            calls.put(name, called);
        });
        for (String name : calls.keySet()) {
            holds("calls go at most six deep from " + name, depth(calls, name, 0) <= 6);
        }
    }

    /** Recursion shows as a depth beyond every bound. */
    private static int depth(Map<String, Set<String>> calls, String name, int above) {
        int deepest = 0;
        if (above < 20) {
            for (String called : calls.getOrDefault(name, Set.of())) {
                deepest = Math.max(deepest, depth(calls, called, above + 1));
            }
        }
        return deepest + 1;
    }
}
