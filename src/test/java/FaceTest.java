import java.io.IOException;
import java.lang.reflect.Constructor;
import java.lang.reflect.Field;
import java.lang.reflect.Method;
import java.lang.reflect.Modifier;
import java.nio.file.Files;
import java.nio.file.Path;
import java.util.Set;
import java.util.TreeSet;
import java.util.regex.Matcher;
import java.util.regex.Pattern;

/** The class has the members that the document's public face names, and no others that are not private. */
final class FaceTest {
    private static final Path DOCUMENT = Path.of("../shared/DOC.md");

    private FaceTest() {
    }

    public static void main(String[] args) throws IOException {
        String text = Files.readString(DOCUMENT);
        String face = text.substring(text.indexOf("public final class"), text.indexOf("## Terms"));
        Set<String> due = new TreeSet<>();
        Matcher line = Pattern.compile("(?m)^    (public .*);$").matcher(face);
        while (line.find()) {
            due.add(line.group(1).replaceAll("\\b(int|boolean) \\w+(?=[,)])", "$1").replace(", ", ","));
        }
        Check.due("members in the document", due.size() > 60, true);
        Set<String> got = members();
        for (String member : due) {
            Check.due("member " + member, got.contains(member), true);
        }
        for (String member : got) {
            Check.due("member in the document: " + member, due.contains(member), true);
        }
        Check.due("public and final", Modifier.toString(MoonlitFloor.class.getModifiers()), "public final");
        for (Class<?> inside : MoonlitFloor.class.getDeclaredClasses()) {
            Check.due("static " + inside, Modifier.isStatic(inside.getModifiers()), true);
            Check.due("public " + inside, Modifier.isPublic(inside.getModifiers()), false);
        }
        Check.end();
    }

    private static Set<String> members() {
        Set<String> members = new TreeSet<>();
        for (Field field : MoonlitFloor.class.getDeclaredFields()) {
            if (!Modifier.isPrivate(field.getModifiers())) {
                members.add(field.toGenericString().replace("MoonlitFloor.", "") + " = " + constant(field));
            }
        }
        for (Method method : MoonlitFloor.class.getDeclaredMethods()) {
            if (!Modifier.isPrivate(method.getModifiers()) && !method.isSynthetic()) {
                members.add(plain(method.toGenericString()));
            }
        }
        for (Constructor<?> constructor : MoonlitFloor.class.getDeclaredConstructors()) {
            members.add(constructor.toGenericString());
        }
        return members;
    }

    private static String constant(Field field) {
        try {
            return String.valueOf(field.getInt(null));
        } catch (IllegalAccessException e) {
            return "none that can be read";
        }
    }

    private static String plain(String signature) {
        return signature.replace("MoonlitFloor.", "").replace("java.lang.", "");
    }
}
