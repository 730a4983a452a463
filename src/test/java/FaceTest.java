import java.io.IOException;
import java.lang.reflect.Constructor;
import java.lang.reflect.Field;
import java.lang.reflect.Member;
import java.lang.reflect.Method;
import java.lang.reflect.Modifier;
import java.nio.file.Files;
import java.nio.file.Path;
import java.util.List;
import java.util.Set;
import java.util.TreeSet;
import java.util.regex.Matcher;
import java.util.regex.Pattern;

/** The section "The public face", to the letter: its calls with their types and names, and no others. */
public final class FaceTest {
    private static final Pattern GROUP =
            Pattern.compile("Ahead of the calls ([^:]*) the interface says: (---- .*?)\\. ?(?=Ahead of|$)");
    private static final Pattern CALL_OF_GROUP = Pattern.compile("`(\\w+)`");

    public static void main(String[] args) throws IOException {
        String source = Files.readString(Path.of("src/main/java/CurtainHouse.java"));
        theClass(source);
        theCalls(source);
        noOthers();
        theGroups(source);
        Due.end();
    }

    private static void isSo(String words, boolean so) {
        Due.due(words, so ? 1 : 0, 1);
    }

    private static void theClass(String source) {
        int modifiers = CurtainHouse.class.getModifiers();
        isSo("public", Modifier.isPublic(modifiers));
        isSo("final", Modifier.isFinal(modifiers));
        isSo("it extends nothing", CurtainHouse.class.getSuperclass() == Object.class);
        isSo("it implements nothing", CurtainHouse.class.getInterfaces().length == 0);
        isSo("without a package", CurtainHouse.class.getPackageName().isEmpty());
        isSo("the constructor's line", source.contains("\n    public CurtainHouse() {\n"));
    }

    /** The calls stand in the document's order, under its names, with its types and its names of arguments. */
    private static void theCalls(String source) {
        List<Doc.Call> face = Doc.face();
        Due.due("calls of the face", face.size(), Doc.PROMISES - 1);
        int behind = 0;
        for (Doc.Call call : face) {
            int at = source.indexOf("\n    " + call.line() + " {\n", behind);
            isSo(call.line() + " stands behind the one ahead of it", at >= 0);
            behind = Math.max(behind, at);
        }
    }

    private static void noOthers() {
        Set<String> due = new TreeSet<>();
        for (Doc.Call call : Doc.face()) {
            due.add(call.type() + " " + call.name() + "(" + "int,".repeat(call.arguments().size()) + ")");
        }
        Set<String> open = new TreeSet<>();
        for (Method m : CurtainHouse.class.getDeclaredMethods()) {
            if (isOpen(m)) {
                isSo(m + " is public, of an object, and throws nothing", Modifier.isPublic(m.getModifiers())
                        && !Modifier.isStatic(m.getModifiers()) && m.getExceptionTypes().length == 0);
                open.add(m.getReturnType() + " " + m.getName() + "(" + types(m) + ")");
            }
        }
        isSo("the open methods are the face's: " + open + " for " + due, open.equals(due));
        for (Field f : CurtainHouse.class.getDeclaredFields()) {
            isSo(f + " is private", !isOpen(f));
        }
        Constructor<?>[] made = CurtainHouse.class.getDeclaredConstructors();
        Due.due("constructors", made.length, 1);
        isSo("the public one, of nothing", Modifier.isPublic(made[0].getModifiers()) && made[0].getParameterCount() == 0);
    }

    private static boolean isOpen(Member m) {
        return !Modifier.isPrivate(m.getModifiers());
    }

    private static String types(Method m) {
        StringBuilder types = new StringBuilder();
        for (Class<?> type : m.getParameterTypes()) {
            types.append(type).append(',');
        }
        return types.toString();
    }

    /** What the interface says ahead of some calls stands in the source ahead of just these. */
    private static void theGroups(String source) {
        Matcher group = GROUP.matcher(Doc.part(Doc.TERMS).trim());
        int groups = 0;
        while (group.find()) {
            groups++;
            String title = "\n    // " + group.group(2) + "\n";
            int begin = source.indexOf(title);
            isSo(group.group(2), begin >= 0);
            int end = begin < 0 ? -1 : source.indexOf("\n    // ---- ", begin + title.length());
            String part = begin < 0 || end < 0 ? "" : source.substring(begin, end);
            Matcher call = CALL_OF_GROUP.matcher(group.group(1));
            int calls = 0;
            while (call.find()) {
                calls++;
                isSo(call.group(1) + " under " + group.group(2), part.contains(" " + call.group(1) + "("));
            }
            Due.due("public calls under " + group.group(2), part.split("\n    public ", -1).length - 1, calls);
        }
        Due.due("groups", groups, 9);
    }
}
