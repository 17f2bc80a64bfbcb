import java.lang.reflect.Executable;
import java.lang.reflect.Field;
import java.lang.reflect.Method;
import java.lang.reflect.Modifier;
import java.util.ArrayList;
import java.util.Arrays;
import java.util.List;
import java.util.stream.Collectors;

/** The section "The public face": each of its lines, held against the compiled class. */
final class FaceSentences extends Sentences {
    private static final String CLASS = "public final class TarArchive {";

    static final List<String> LINES = List.of(
        "public static final int BLOCK = 64;",
        "public static final int MAX_FILE = 32;",
        "public static final int MAX_DEPTH = 6;",
        "public static final int NAME_LEN = 12;",
        "public static final int PREFIX_LEN = 10;",
        "public static final int LINK_LEN = 12;",
        "public static final int KIND_FILE = 1;",
        "public static final int KIND_LINK = 2;",
        "public static final int KIND_DIR = 3;",
        "public static final int INFO_KIND = 0;",
        "public static final int INFO_PARENT = 1;",
        "public static final int INFO_NAME = 2;",
        "public static final int INFO_MODE = 3;",
        "public static final int INFO_SIZE = 4;",
        "public static final int INFO_LINK = 5;",
        "public static final int ERR_ARG = -2;",
        "public static final int ERR_FULL = -3;",
        "public static final int ERR_KIND = -4;",
        "public static final int ERR_NAME = -5;",
        "public static final int ERR_PARENT = -6;",
        "public static final int ERR_DEPTH = -7;",
        "public static final int ERR_DUPLICATE = -8;",
        "public static final int ERR_MODE = -9;",
        "public static final int ERR_LINK = -10;",
        "public static final int ERR_NAME_TOO_LONG = -11;",
        "public static final int ERR_ARCHIVE_FULL = -12;",
        "public static final int ERR_TRUNCATED = -13;",
        "public static final int ERR_BAD_END = -14;",
        "public static final int ERR_CHECKSUM = -15;",
        "public static final int ERR_MAGIC = -16;",
        "public static final int ERR_TYPE = -17;",
        "public static final int ERR_FIELD = -18;",
        "public static final int ERR_TOO_BIG = -19;",
        "public static final int ERR_TOO_MANY = -20;",
        "public static final int ERR_PADDING = -21;",
        "public TarArchive(int maxNodes, int maxBlocks);",
        "public int addNode(int parent, int kind, int name, int modeOrTarget);",
        "public int appendData(int node, int value);",
        "public int create();",
        "public int extract();",
        "public int errorBlock();",
        "public int archiveLength();",
        "public int archiveByte(int pos);",
        "public int pokeArchive(int pos, int value);",
        "public int truncateArchive(int len);",
        "public int appendArchive(int value);",
        "public int nodeCount(int t);",
        "public int nodeInfo(int t, int i, int what);",
        "public int nodeByte(int t, int i, int k);");

    private FaceSentences() {
    }

    static void run() {
        section("The public face");
        says(CLASS, FaceSentences::oneClass);
        for (String line : LINES) {
            says(line, () -> Kit.due("members as in: " + line, members().contains(types(line)) ? 1 : 0, 1));
        }
        onlyLeads("}");
    }

    /** The class as its line has it, and no public member that has no line. */
    private static void oneClass() {
        Kit.due("the class", Modifier.toString(TarArchive.class.getModifiers()) + " class " + TarArchive.class.getName() + " {",
            CLASS);
        Kit.due("what it extends", TarArchive.class.getSuperclass().getName(), "java.lang.Object");
        Kit.due("what it implements", TarArchive.class.getInterfaces().length, 0);
        List<String> members = members();
        Kit.due("public members", members.size(), LINES.size());
        members.removeAll(LINES.stream().map(FaceSentences::types).collect(Collectors.toList()));
        Kit.due("public members without a line", members.toString(), "[]");
    }

    /** The line without the names of the parameters, which a compiled class does not keep. */
    private static String types(String line) {
        return line.replaceAll("(\\w+) \\w+(?=[,)])", "$1");
    }

    private static List<String> members() {
        List<String> members = new ArrayList<>();
        for (Field field : TarArchive.class.getFields()) {
            members.add(Modifier.toString(field.getModifiers()) + " " + field.getType() + " " + field.getName() + " = "
                + value(field) + ";");
        }
        for (Executable made : TarArchive.class.getConstructors()) {
            members.add(callable(made, "TarArchive"));
        }
        for (Method method : TarArchive.class.getDeclaredMethods()) {
            if (Modifier.isPublic(method.getModifiers())) {
                members.add(callable(method, method.getReturnType() + " " + method.getName()));
            }
        }
        return members;
    }

    private static String callable(Executable member, String name) {
        String types = Arrays.stream(member.getParameterTypes()).map(Class::getName).collect(Collectors.joining(", "));
        return Modifier.toString(member.getModifiers()) + " " + name + "(" + types + ");";
    }

    private static Object value(Field field) {
        try {
            return field.get(null);
        } catch (IllegalAccessException hidden) {
            throw new IllegalStateException(hidden);
        }
    }
}
