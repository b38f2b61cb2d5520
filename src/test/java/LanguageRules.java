import java.io.IOException;
import java.lang.reflect.Constructor;
import java.lang.reflect.Field;
import java.lang.reflect.Method;
import java.lang.reflect.Modifier;
import java.nio.file.Files;
import java.nio.file.Path;
import java.util.ArrayList;
import java.util.LinkedHashMap;
import java.util.List;
import java.util.Map;
import java.util.Set;
import java.util.TreeSet;
import java.util.regex.Matcher;
import java.util.regex.Pattern;

/** Looks at the class's members and source for the rules of LANGUAGE.md that can be seen there. */
public final class LanguageRules {
    private static final Path SOURCE = Path.of("src/main/java/WideMachine.java");
    private static final Pattern METHOD = Pattern.compile("(?m)^    (?:public|private)[^=;{]*?\\b(\\w+)\\(([^)]*)\\) \\{\\n");
    private static final Pattern CALL = Pattern.compile("\\b(\\w+)\\(");
    private static final Set<String> NOT_CALLS = Set.of("if", "for", "while", "switch");
    private static final Set<String> FACE = Set.of(
        "boolean put(int,int)", "int code(int,int,int,int,int)", "boolean set(int,int)", "boolean width(int)", "int run()",
        "int register(int)", "int word(int)", "int taken(int)", "int block(int,int)", "int cycle(int,int)", "int kept(int)",
        "int flush()");
    private static final Set<String> CONSTANTS = Set.of("OK", "ADDRESS", "DIVISION", "ILLEGAL", "LONG", "NONE");

    private static int wrong = 0;

    private static void must(boolean holds, String rule) {
        if (!holds) {
            wrong++;
            System.out.println("not kept: " + rule);
        }
    }

    private static void lookAtMembers() {
        Class<?> c = WideMachine.class;
        must(Modifier.isPublic(c.getModifiers()) && Modifier.isFinal(c.getModifiers()), "1: the class is public and final");
        must(c.getDeclaredClasses().length == 0, "1: no nested class");
        Constructor<?>[] made = c.getDeclaredConstructors();
        must(made.length == 1 && made[0].getParameterCount() == 0 && Modifier.isPublic(made[0].getModifiers()),
            "1: the constructor of the document");
        Set<String> face = new TreeSet<>();
        Set<String> hidden = new TreeSet<>();
        for (Method m : c.getDeclaredMethods()) {
            if (Modifier.isPrivate(m.getModifiers())) {
                hidden.add(m.getName());
                continue;
            }
            must(m.getModifiers() == Modifier.PUBLIC, "1: " + m.getName() + " is public alone");
            List<String> types = new ArrayList<>();
            for (Class<?> type : m.getParameterTypes()) {
                types.add(type.getName());
            }
            face.add(m.getReturnType().getName() + " " + m.getName() + "(" + String.join(",", types) + ")");
        }
        must(face.equals(FACE), "1: the public methods are those of the document: " + face);
        for (String one : FACE) {
            String name = one.replaceAll("^\\w+ |\\(.*$", "");
            must(!hidden.contains(name), "1: no private method is named " + name);
        }
        lookAtFields(c);
    }

    private static void lookAtFields(Class<?> c) {
        Set<String> constants = new TreeSet<>();
        int held = 0;
        for (Field f : c.getDeclaredFields()) {
            int how = f.getModifiers();
            if (Modifier.isStatic(how)) {
                must(f.getType() == int.class && Modifier.isFinal(how), "5: " + f.getName() + " is a constant");
            } else {
                held++;
                must(!f.getType().isArray() || Modifier.isFinal(how), "4: " + f.getName() + " is made once");
            }
            if (!Modifier.isPrivate(how)) {
                must(how == (Modifier.PUBLIC | Modifier.STATIC | Modifier.FINAL), "1: " + f.getName() + " is public");
                constants.add(f.getName());
            }
        }
        must(constants.equals(CONSTANTS), "1: the constants are those of the document: " + constants);
        must(held <= 40, "10: at most some forty fields");
    }

    private static void lookAtWords(String source) {
        String[] not = {"import", "package", "float", "double", "String", "Math", "Integer", "System", "Arrays", "Object", "null",
            "throw", "throws", "try", "catch", "synchronized", "assert", "instanceof", "interface", "enum", "record", "this",
            "super", "protected"};
        for (String one : not) {
            must(!Pattern.compile("\\b" + one + "\\b").matcher(source).find(), "2, 3, 4, 6: no " + one);
        }
        must(!source.contains("->") && !source.contains("::") && !source.contains("\""), "2, 6: no lambda, reference, text");
        must(!source.contains("[]["), "2: arrays of one dimension");
        for (String line : source.split("\n")) {
            must(!line.contains("new ") || line.matches("    private final int\\[\\] \\w+ = new int\\[\\w+\\];"),
                "4: arrays are made by fields: " + line.trim());
        }
    }

    private static void lookAtMethods(String source) {
        Map<String, String> bodies = new LinkedHashMap<>();
        Matcher m = METHOD.matcher(source);
        while (m.find()) {
            String body = source.substring(m.end(), source.indexOf("\n    }\n", m.end() - 1) + 1);
            must(bodies.put(m.group(1), body) == null, "two methods named " + m.group(1));
            must(m.group(2).split(",").length <= 7, "10: at most seven parameters: " + m.group(1));
            must(body.split("\n").length <= 60, "10: short methods: " + m.group(1));
        }
        must(bodies.size() == WideMachine.class.getDeclaredMethods().length + 1, "every method was seen: " + bodies.keySet());
        for (String name : bodies.keySet()) {
            lookAtCalls(name, bodies.get(name), bodies.keySet());
            int deep = depth(name, bodies, 0);
            must(deep <= 6, "8, 10: calls go six deep at most: " + name + " goes " + deep);
        }
    }

    private static void lookAtCalls(String name, String body, Set<String> methods) {
        Matcher call = CALL.matcher(body);
        while (call.find()) {
            if (NOT_CALLS.contains(call.group(1))) {
                continue;
            }
            must(methods.contains(call.group(1)), "3: " + name + " calls a method of the class: " + call.group(1));
            int open = 1;
            int end = call.end();
            while (open > 0) {
                open += body.charAt(end) == '(' ? 1 : body.charAt(end) == ')' ? -1 : 0;
                end++;
            }
            must(!CALL.matcher(body.substring(call.end(), end)).find(), "10: no call inside a call's arguments: "
                + body.substring(call.start(), end));
        }
    }

    /** How many methods are at work at once at the deepest, with this one; far too many where one calls itself. */
    private static int depth(String name, Map<String, String> bodies, int above) {
        int most = 0;
        Matcher call = CALL.matcher(bodies.get(name));
        while (above < 20 && call.find()) {
            if (bodies.containsKey(call.group(1))) {
                most = Math.max(most, depth(call.group(1), bodies, above + 1));
            }
        }
        return most + 1;
    }

    public static void main(String[] args) throws IOException {
        String source = Files.readString(SOURCE).replaceAll("(?s)/\\*.*?\\*/", "").replaceAll("//[^\n]*", "");
        lookAtMembers();
        lookAtWords(source);
        lookAtMethods(source);
        if (wrong > 0) {
            System.exit(1);
        }
    }
}
