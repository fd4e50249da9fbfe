import java.lang.reflect.Constructor;
import java.lang.reflect.Field;
import java.lang.reflect.Method;
import java.lang.reflect.Modifier;
import java.nio.file.Files;
import java.nio.file.Path;
import java.util.ArrayList;
import java.util.LinkedHashMap;
import java.util.List;
import java.util.Map;
import java.util.Set;
import java.util.TreeSet;
import java.util.regex.Matcher;
import java.util.regex.Pattern;

/**
 * The public face of the document, and those rules of LANGUAGE.md that can be seen from the class
 * or from its text. Run from the project's root, where the text is found.
 */
public final class LanguageTest {
    private static final String[] METHODS = {
        "int token(int,int)", "int compile()", "boolean setInput(int,int)", "boolean setRegister(int,int)",
        "int clock(int,int)", "void reset()", "int getRegister(int)", "int getInput(int)", "int getWire(int)",
        "int getOutput(int)", "int getNext(int)", "int getTokenCount()", "int getNeed()", "boolean isCompiled()",
        "int getCycles()"};
    private static final String[] CONSTANTS = {
        "OK=0", "ERR_SEALED=-1", "ERR_KIND=-2", "ERR_VALUE=-3", "ERR_FULL=-4", "ERR_SYNTAX=-5", "ERR_REDEF=-6",
        "ERR_UNDEF=-7", "ERR_INCOMPLETE=-8", "ERR_NOT_COMPILED=-9", "ERR_MODE=-10", "MODE_RTL=0", "MODE_GATES=1",
        "K_NUM=1", "K_IN=2", "K_REG=3", "K_WIRE=4", "K_OP=5", "K_SHL=6", "K_SHR=7", "K_BIT=8", "K_WIREDEF=9",
        "K_OUTDEF=10", "K_REGSET=11", "OP_NOT=1", "OP_NEG=2", "OP_ADD=3", "OP_SUB=4", "OP_AND=5", "OP_OR=6",
        "OP_XOR=7", "OP_EQ=8", "OP_LTU=9", "OP_LTS=10", "OP_MUX=11"};
    private static final Set<String> TYPES = Set.of("int", "long", "short", "byte", "char", "boolean",
            "int[]", "long[]", "short[]", "byte[]", "char[]", "boolean[]");
    private static final String FORBIDDEN = "\\b(import|package|String|Math|Integer|System|Arrays|Object|null|"
            + "float|double|throw|throws|try|catch|synchronized|assert|instanceof|enum|record|interface)\\b|->|::";
    private static final Check check = new Check();

    public static void main(String[] args) throws Exception {
        face();
        fields();
        privateMethods();
        String text = Files.readString(Path.of("src/main/java/RtlSynth.java")).replaceAll("//.*", "");
        words(text);
        Map<String, String> bodies = bodies(text);
        lengths(bodies);
        calls(bodies);
        check.finish();
    }

    private static void face() throws Exception {
        Class<?> type = RtlSynth.class;
        check.due("class modifiers", type.getModifiers(), Modifier.PUBLIC | Modifier.FINAL);
        check.due("nested classes", type.getDeclaredClasses().length, 0);
        check.due("interfaces", type.getInterfaces().length, 0);
        Set<String> methods = new TreeSet<>();
        for (Method m : type.getDeclaredMethods()) {
            if (!Modifier.isPrivate(m.getModifiers())) methods.add(m.getReturnType() + " " + signature(m));
        }
        check.due("methods", methods.toString(), new TreeSet<>(List.of(METHODS)).toString());
        Set<String> constants = new TreeSet<>();
        for (Field f : type.getDeclaredFields()) {
            if (Modifier.isPrivate(f.getModifiers())) continue;
            check.due(f.getName() + " modifiers", f.getModifiers(), Modifier.PUBLIC | Modifier.STATIC | Modifier.FINAL);
            check.due(f.getName() + " type", f.getType().toString(), "int");
            constants.add(f.getName() + "=" + f.getInt(type));
        }
        check.due("constants", constants.toString(), new TreeSet<>(List.of(CONSTANTS)).toString());
        Constructor<?>[] made = type.getDeclaredConstructors();
        check.due("constructors", made.length, 1);
        check.due("constructor", made[0].toString(), "public RtlSynth(int)");
    }

    private static String signature(Method m) {
        List<String> types = new ArrayList<>();
        for (Class<?> parameter : m.getParameterTypes()) types.add(parameter.getSimpleName());
        return m.getName() + "(" + String.join(",", types) + ")";
    }

    private static void fields() {
        int count = 0;
        for (Field f : RtlSynth.class.getDeclaredFields()) {
            String type = f.getType().getSimpleName();
            check.due(f.getName() + " of type " + type, TYPES.contains(type), true);
            if (Modifier.isStatic(f.getModifiers())) {
                check.due("static " + f.getName() + " final", Modifier.isFinal(f.getModifiers()), true);
                check.due("static " + f.getName() + " whole", type.equals("int") || type.equals("long"), true);
            } else {
                count++;
            }
        }
        check.due(count + " fields, at most 40", count <= 40, true);
    }

    private static void privateMethods() {
        Set<String> names = new TreeSet<>();
        for (Method m : RtlSynth.class.getDeclaredMethods()) {
            check.due("a second " + m.getName(), names.add(m.getName()), true);
            check.due(m.getName() + " has at most 7 parameters", m.getParameterCount() <= 7, true);
            check.due(m.getName() + " answers an array", m.getReturnType().isArray(), false);
        }
    }

    private static void words(String text) {
        Matcher word = Pattern.compile(FORBIDDEN).matcher(text);
        while (word.find()) check.due("word " + word.group(), true, false);
        for (String line : text.split("\n")) {
            if (!line.contains("new ")) continue;
            boolean field = line.matches("    private final \\w+\\[\\] \\w+ = new \\w+\\[[A-Z_]+\\];");
            check.due("array made by " + line.trim(), field, true);
        }
    }

    /** The text of each method, in the layout of this project: four blanks before its head and its end. */
    private static Map<String, String> bodies(String text) {
        Map<String, String> bodies = new LinkedHashMap<>();
        Matcher head = Pattern.compile("(?m)^    (?:public|private)[^=;\\n]*?(\\w+)\\([^)]*\\) \\{\\n").matcher(text);
        while (head.find()) {
            bodies.put(head.group(1), text.substring(head.end(), text.indexOf("\n    }\n", head.end())));
        }
        check.due("methods found", bodies.size(), RtlSynth.class.getDeclaredMethods().length + 1);
        return bodies;
    }

    private static void lengths(Map<String, String> bodies) {
        for (Map.Entry<String, String> method : bodies.entrySet()) {
            int lines = method.getValue().split("\n").length + 2;
            check.due(method.getKey() + " of " + lines + " lines, at most 60", lines <= 60, true);
        }
    }

    private static void calls(Map<String, String> bodies) {
        for (Map.Entry<String, String> method : bodies.entrySet()) {
            int deep = depth(method.getKey(), bodies, 1);
            check.due(method.getKey() + " goes " + deep + " deep, at most 6", deep <= 6, true);
            Matcher nested = Pattern.compile("\\b(\\w+)\\([^;{]*?\\b(\\w+)\\(").matcher(method.getValue());
            while (nested.find()) {
                boolean both = bodies.containsKey(nested.group(1)) && bodies.containsKey(nested.group(2));
                boolean closed = nested.group().contains(")");
                check.due(method.getKey() + ": call in call " + nested.group(), both && !closed, false);
            }
        }
    }

    /** Counts the method itself; a chain of over 40 is a circle. */
    private static int depth(String name, Map<String, String> bodies, int above) {
        int deepest = 1;
        if (above > 40) return deepest;
        Matcher call = Pattern.compile("\\b(\\w+)\\(").matcher(bodies.get(name));
        while (call.find()) {
            if (!bodies.containsKey(call.group(1))) continue;
            deepest = Math.max(deepest, 1 + depth(call.group(1), bodies, above + 1));
        }
        return deepest;
    }
}
