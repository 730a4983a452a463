import java.io.IOException;
import java.lang.reflect.Field;
import java.lang.reflect.Method;
import java.lang.reflect.Modifier;
import java.nio.file.Files;
import java.nio.file.Path;
import java.util.Set;
import java.util.TreeSet;
import java.util.regex.Pattern;

/** The rules of LANGUAGE.md that can be seen from the source's words and the class's members. */
public final class LanguageTest {
    private static final String FACE = "ahead as change copy count curtain cut down evening feed fire fits go"
            + " handsFor hold image judge kindFor kinds listed load moodFor now odds of please pull saved scene"
            + " sceneFor seed sheet status tear text tie undo up weary wipe write";
    private static final String[] RULED_OUT = {"throw", "throws", "try", "catch", "synchronized", "assert",
        "package", "volatile", "transient", "native", "Thread", "System\\.(?!arraycopy)", "Random", "Object",
        "double", "float", "->", "::", "@", "import", "protected", "\\w+Exact"};

    public static void main(String[] args) throws IOException {
        face();
        members(CurtainHouse.class);
        for (Class<?> inside : CurtainHouse.class.getDeclaredClasses()) {
            Due.due(inside + " is static", Modifier.isStatic(inside.getModifiers()) ? 1 : 0, 1);
            Due.due(inside + " is not public", Modifier.isPublic(inside.getModifiers()) ? 1 : 0, 0);
            members(inside);
        }
        words(Files.readString(Path.of("src/main/java/CurtainHouse.java")));
        Due.end();
    }

    private static void face() {
        Set<String> open = new TreeSet<>();
        for (Method m : CurtainHouse.class.getDeclaredMethods()) {
            if (!Modifier.isPrivate(m.getModifiers())) {
                open.add(m.getName());
            }
        }
        Due.due("the face: " + open, String.join(" ", open).equals(FACE) ? 1 : 0, 1);
        Due.due("final", Modifier.isFinal(CurtainHouse.class.getModifiers()) ? 1 : 0, 1);
        for (Field f : CurtainHouse.class.getDeclaredFields()) {
            Due.due(f + " is private", Modifier.isPrivate(f.getModifiers()) ? 1 : 0, 1);
        }
    }

    private static void members(Class<?> type) {
        int fields = 0;
        for (Field f : type.getDeclaredFields()) {
            boolean isStatic = Modifier.isStatic(f.getModifiers());
            fields += isStatic ? 0 : 1;
            Due.due(f + " is final if static", isStatic && !Modifier.isFinal(f.getModifiers()) ? 1 : 0, 0);
        }
        Due.due(type + ": fields", fields > 20 ? fields : 20, 20);
        Set<String> face = Set.of(FACE.split(" "));
        for (Method m : type.getDeclaredMethods()) {
            Due.due(m + ": parameters", m.getParameterCount() > 7 ? 1 : 0, 0);
            boolean isOfFace = type == CurtainHouse.class && Modifier.isPublic(m.getModifiers());
            Due.due(m + " bears a public name", !isOfFace && face.contains(m.getName()) ? 1 : 0, 0);
        }
    }

    private static void words(String source) {
        String code = source.replaceAll("(?s)/\\*.*?\\*/", "").replaceAll("//[^\n]*", "")
                .replaceAll("\"[^\"\n]*\"", "\"\"");
        for (String word : RULED_OUT) {
            String whole = Character.isLetter(word.charAt(0)) ? "\\b" + word + (word.endsWith(")") ? "" : "\\b") : word;
            Due.due(word, Pattern.compile(whole).matcher(code).find() ? 1 : 0, 0);
        }
        Due.due("signs 1 to 127 alone", source.chars().allMatch(c -> c >= 1 && c <= 127) ? 1 : 0, 1);
    }
}
