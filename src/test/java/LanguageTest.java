import java.io.IOException;
import java.lang.reflect.Constructor;
import java.lang.reflect.Field;
import java.lang.reflect.Method;
import java.lang.reflect.Modifier;
import java.nio.file.Files;
import java.nio.file.Path;
import java.util.Arrays;
import java.util.Map;
import java.util.TreeMap;
import java.util.TreeSet;
import java.util.regex.Matcher;
import java.util.regex.Pattern;

/** The public face of the document, and those rules of LANGUAGE.md that a plain look at the source can tell. */
public final class LanguageTest {
    private static final String FACE = "addNode(4) appendArchive(1) appendData(2) archiveByte(1) archiveLength(0) create(0) "
        + "errorBlock(0) extract(0) nodeByte(3) nodeCount(1) nodeInfo(3) pokeArchive(2) truncateArchive(1)";
    private static final String CONSTANTS = "BLOCK=64 ERR_ARCHIVE_FULL=-12 ERR_ARG=-2 ERR_BAD_END=-14 ERR_CHECKSUM=-15 "
        + "ERR_DEPTH=-7 ERR_DUPLICATE=-8 ERR_FIELD=-18 ERR_FULL=-3 ERR_KIND=-4 ERR_LINK=-10 ERR_MAGIC=-16 ERR_MODE=-9 "
        + "ERR_NAME=-5 ERR_NAME_TOO_LONG=-11 ERR_PADDING=-21 ERR_PARENT=-6 ERR_TOO_BIG=-19 ERR_TOO_MANY=-20 "
        + "ERR_TRUNCATED=-13 ERR_TYPE=-17 INFO_KIND=0 INFO_LINK=5 INFO_MODE=3 INFO_NAME=2 INFO_PARENT=1 INFO_SIZE=4 "
        + "KIND_DIR=3 KIND_FILE=1 KIND_LINK=2 LINK_LEN=12 MAX_DEPTH=6 MAX_FILE=32 NAME_LEN=12 PREFIX_LEN=10";
    private static final String FORBIDDEN = "import package throw throws try catch finally synchronized assert instanceof null "
        + "String Object Math Integer Long System Arrays float double protected enum record interface var volatile native "
        + "extends implements super";

    public static void main(String[] args) throws IOException, IllegalAccessException {
        publicFace();
        fields();
        String code = code();
        words(code);
        arrays(code);
        calls(code);
        Kit.end(LanguageTest.class);
    }

    private static void publicFace() throws IllegalAccessException {
        TreeSet<String> face = new TreeSet<>();
        TreeSet<String> publicNames = new TreeSet<>();
        for (Method method : TarArchive.class.getDeclaredMethods()) {
            if (Modifier.isPublic(method.getModifiers())) {
                face.add(method.getName() + "(" + method.getParameterCount() + ")");
                publicNames.add(method.getName());
                Kit.due(method + " answers an int", method.getReturnType() == int.class ? 1 : 0, 1);
            }
        }
        Kit.due("the public methods", String.join(" ", face), FACE);
        for (Method method : TarArchive.class.getDeclaredMethods()) {
            if (!Modifier.isPublic(method.getModifiers())) {
                Kit.due(method + " is private", Modifier.isPrivate(method.getModifiers()) ? 1 : 0, 1);
                Kit.due(method + " has a name of its own", publicNames.contains(method.getName()) ? 1 : 0, 0);
            }
            Kit.due(method + " has more than seven parameters", method.getParameterCount() > 7 ? 1 : 0, 0);
        }
        TreeSet<String> constants = new TreeSet<>();
        for (Field field : TarArchive.class.getFields()) {
            constants.add(field.getName() + "=" + field.getInt(null));
        }
        Kit.due("the public constants", String.join(" ", constants), CONSTANTS);
        Constructor<?>[] constructors = TarArchive.class.getDeclaredConstructors();
        Kit.due("constructors", constructors.length, 1);
        Kit.due("the constructor", constructors[0].toString(), "public TarArchive(int,int)");
        Kit.due("the class", Modifier.toString(TarArchive.class.getModifiers()), "public final");
        Kit.due("nested classes", TarArchive.class.getDeclaredClasses().length, 0);
    }

    private static void fields() {
        int objectFields = 0;
        for (Field field : TarArchive.class.getDeclaredFields()) {
            boolean constant = Modifier.isStatic(field.getModifiers());
            boolean number = field.getType() == int.class || field.getType() == long.class;
            if (constant) {
                Kit.due(field + " is a constant", number && Modifier.isFinal(field.getModifiers()) ? 1 : 0, 1);
            } else {
                Kit.due(field + " is private", Modifier.isPrivate(field.getModifiers()) ? 1 : 0, 1);
                objectFields++;
            }
        }
        Kit.due("fields beyond forty", Math.max(0, objectFields - 40), 0);
    }

    /** The source without comments and character literals. */
    private static String code() throws IOException {
        String source = Files.readString(Path.of("src/main/java/TarArchive.java"));
        return source.replaceAll("(?s)/\\*.*?\\*/", "").replaceAll("//[^\n]*", "").replaceAll("'[^']*'", "0");
    }

    private static void words(String code) {
        TreeSet<String> used = new TreeSet<>(Arrays.asList(code.split("\\W+")));
        for (String word : FORBIDDEN.split(" ")) {
            Kit.due("the word " + word, used.contains(word) ? 1 : 0, 0);
        }
        Kit.due("texts", code.contains("\"") ? 1 : 0, 0);
        Kit.due("lambdas and references", code.contains("->") || code.contains("::") ? 1 : 0, 0);
        Kit.due("classes", code.split("\\bclass\\b", -1).length - 1, 1);
    }

    private static void arrays(String code) {
        Matcher field = Pattern.compile("\n    private final int\\[\\] \\w+ = new int\\[[A-Z_]+\\];").matcher(code);
        Kit.due("each new is a field's initialiser", code.split("\\bnew\\b", -1).length - 1, field.results().count());
    }

    private static void calls(String code) {
        Map<String, String> bodies = new TreeMap<>();
        Matcher method = Pattern.compile("(?s)\n    (?:public|private)[^;={]*?(\\w+)\\([^)]*\\) \\{(.*?)\n    \\}").matcher(code);
        while (method.find()) {
            bodies.put(method.group(1), method.group(2));
            long lines = method.group(2).lines().count();
            Kit.due(method.group(1) + " has more than sixty lines", lines > 60 ? 1 : 0, 0);
        }
        Kit.due("methods and the constructor were all seen", bodies.size(),
            TarArchive.class.getDeclaredMethods().length + 1);
        for (String name : bodies.keySet()) {
            // Recursion shows as a depth without end, which stops at the bound.
            Kit.due("calls from " + name + " go deeper than six", depth(bodies, name, 8) > 6 ? 1 : 0, 0);
            nested(bodies, name);
        }
    }

    private static int depth(Map<String, String> bodies, String name, int bound) {
        int deepest = 0;
        Matcher call = Pattern.compile("(\\w+)\\(").matcher(bodies.get(name));
        while (bound > 0 && call.find()) {
            if (bodies.containsKey(call.group(1))) {
                deepest = Math.max(deepest, depth(bodies, call.group(1), bound - 1));
            }
        }
        return deepest + 1;
    }

    /** No call stands inside another call's arguments. */
    private static void nested(Map<String, String> bodies, String name) {
        String body = bodies.get(name);
        Matcher call = Pattern.compile("(\\w+)\\(").matcher(body);
        while (call.find()) {
            if (bodies.containsKey(call.group(1))) {
                int open = 1;
                int at = call.end();
                while (open > 0) {
                    open += body.charAt(at) == '(' ? 1 : body.charAt(at) == ')' ? -1 : 0;
                    at++;
                }
                boolean inner = Pattern.compile("\\w\\(").matcher(body.substring(call.end(), at)).find();
                Kit.due("a call inside the arguments of " + call.group(1) + " in " + name, inner ? 1 : 0, 0);
            }
        }
    }
}
