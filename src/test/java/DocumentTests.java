import java.io.IOException;
import java.lang.reflect.Constructor;
import java.lang.reflect.Field;
import java.lang.reflect.Method;
import java.lang.reflect.Modifier;
import java.nio.file.Files;
import java.nio.file.Path;
import java.util.ArrayList;
import java.util.List;
import java.util.Set;
import java.util.TreeSet;
import java.util.regex.Matcher;
import java.util.regex.Pattern;

/** The program against the document's own text: its face, its constants, and the head of each promise. */
public final class DocumentTests {
    private static final Check check = new Check("document");

    public static void main(String[] args) throws Exception {
        String text = Files.readString(Path.of("../shared/DOC.md"));
        String face = found(text, "(?s)```java\n(.*?)```").group(1);
        methods(face);
        constants(face);
        promises(text, face);
        check.end();
    }

    private static Matcher found(String text, String pattern) {
        Matcher matcher = Pattern.compile(pattern).matcher(text);
        if (!matcher.find()) {
            throw new IllegalStateException("the document has no " + pattern);
        }
        return matcher;
    }

    private static List<String> all(String text, String pattern) {
        List<String> list = new ArrayList<>();
        Matcher matcher = Pattern.compile(pattern).matcher(text);
        while (matcher.find()) {
            list.add(matcher.group(1));
        }
        return list;
    }

    /** A head as it is written, its numbers without their names: 'int fact(int, boolean)'. */
    private static String bare(String head) {
        return head.replaceAll("(int|boolean|long) \\w+([,)])", "$1$2");
    }

    private static String headOf(Method method) {
        StringBuilder head = new StringBuilder(method.getReturnType().getSimpleName()).append(' ').append(method.getName()).append('(');
        Class<?>[] types = method.getParameterTypes();
        for (int i = 0; i < types.length; i++) {
            head.append(i == 0 ? "" : ", ").append(types[i].getSimpleName());
        }
        return head.append(')').toString();
    }

    private static void methods(String face) {
        check.part("the face");
        Set<String> due = new TreeSet<>();
        for (String head : all(face, "    public ((?:int|long) \\w+\\(.*\\));")) {
            due.add(bare(head));
        }
        Set<String> open = new TreeSet<>();
        for (Method method : RavelKnit.class.getDeclaredMethods()) {
            if (!Modifier.isPrivate(method.getModifiers())) {
                check.holds(method + " is an object's", Modifier.toString(method.getModifiers()).equals("public"));
                open.add(headOf(method));
            }
        }
        check.is("methods of the face", due.size(), 29);
        check.holds("methods are " + due + ", not " + open, due.equals(open));
        for (Constructor<?> constructor : RavelKnit.class.getDeclaredConstructors()) {
            check.holds("the constructor is " + constructor, constructor.toString().equals("public RavelKnit()"));
        }
        int bits = RavelKnit.class.getModifiers();
        check.holds("the class is " + Modifier.toString(bits), face.contains(Modifier.toString(bits) + " class RavelKnit {"));
    }

    private static void constants(String face) throws Exception {
        check.part("constants");
        Set<String> due = new TreeSet<>();
        for (String line : all(face, "public static final (.*);")) {
            String type = line.substring(0, line.indexOf(' '));
            for (String one : line.substring(type.length() + 1).split(", ")) {
                String[] parts = one.split(" = ");
                Field field = RavelKnit.class.getDeclaredField(parts[0]);
                check.is(parts[0], field.getLong(null), Long.parseLong(parts[1].replace("L", "")));
                check.holds(parts[0] + " is of " + type, field.getType().getSimpleName().equals(type));
                due.add(parts[0]);
            }
        }
        Set<String> open = new TreeSet<>();
        for (Field field : RavelKnit.class.getDeclaredFields()) {
            if (!Modifier.isPrivate(field.getModifiers())) {
                check.holds(field + " is a constant", Modifier.toString(field.getModifiers()).equals("public static final"));
                open.add(field.getName());
            }
        }
        check.is("constants of the face", due.size(), 7);
        check.holds("constants are " + due + ", not " + open, due.equals(open));
    }

    /** Each promise is of one method of the face, and a test of PromiseTests bears its number. */
    private static void promises(String text, String face) throws IOException {
        check.part("promises");
        String tests = Files.readString(Path.of("src/test/java/PromiseTests.java"));
        List<String> heads = all(text, "## Promise \\d+: .*\n\n`(.*?)`: ");
        check.is("promises", heads.size(), 30);
        check.is("promises by their headings", all(text, "## Promise (\\d+): ").size(), 30);
        for (int i = 0; i < heads.size(); i++) {
            check.holds(heads.get(i) + " is of the face", face.contains("    public " + heads.get(i) + ";"));
            check.holds("promise " + (i + 1) + " has a test", tests.contains("check.part(\"promise " + (i + 1) + "\");"));
        }
        check.is("promises of one method each", new TreeSet<>(heads).size(), 30);
    }
}
