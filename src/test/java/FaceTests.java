import java.io.IOException;
import java.lang.reflect.Field;
import java.lang.reflect.Method;
import java.lang.reflect.Modifier;
import java.nio.file.Files;
import java.nio.file.Path;
import java.util.Arrays;
import java.util.List;
import java.util.TreeSet;
import java.util.regex.Matcher;
import java.util.regex.Pattern;

/** The public face, and those rules of the language that can be seen in the text of the program. */
public final class FaceTests {
    private static final Check check = new Check("face");
    private static final Path PROGRAM = Path.of("src/main/java/RavelKnit.java");

    private static final String[] FACE = {
        "facts(int):int", "fact(int,boolean):int", "temper(int,int):int", "width(int):int", "say(int):int", "wipe():int",
        "fault(int):int", "judge(int):int", "behind(int):int", "row(int,int):int", "lost(int):int", "done():int",
        "state(int,int):int", "made():int", "bars():int", "seen(int,int):int", "forget():int", "worlds(int):int",
        "tell(int):int", "says(int):int", "orders(int,int,int,int):long", "left(int,int,int,int):int",
        "chance(int,int,int,int):long", "over(int,int,int,int,int):int", "patterns(int):int", "draws(int,int,int):int",
        "image(int):int", "restore(int):int", "told(int):int",
    };

    public static void main(String[] args) throws IOException {
        face();
        String text = withoutComments(Files.readString(PROGRAM));
        words(text);
        lengths(text);
        made(text);
        check.end();
    }

    private static String nameOf(Method method) {
        StringBuilder name = new StringBuilder(method.getName()).append('(');
        for (Class<?> type : method.getParameterTypes()) {
            name.append(name.charAt(name.length() - 1) == '(' ? "" : ",").append(type.getSimpleName());
        }
        return name.append("):").append(method.getReturnType().getSimpleName()).toString();
    }

    private static void face() {
        check.part("the face");
        check.holds("public and final", Modifier.isPublic(RavelKnit.class.getModifiers()) && Modifier.isFinal(RavelKnit.class.getModifiers()));
        check.is("constructors", RavelKnit.class.getDeclaredConstructors().length, 1);
        TreeSet<String> open = new TreeSet<>();
        TreeSet<String> names = new TreeSet<>();
        for (Method method : RavelKnit.class.getDeclaredMethods()) {
            if (Modifier.isPublic(method.getModifiers())) {
                open.add(nameOf(method));
                names.add(method.getName());
            }
        }
        check.holds("methods are as told", open.equals(new TreeSet<>(Arrays.asList(FACE))));
        for (Class<?> part : parts()) {
            for (Method method : part.getDeclaredMethods()) {
                boolean isOpen = part == RavelKnit.class && Modifier.isPublic(method.getModifiers());
                boolean isHidden = part != RavelKnit.class || Modifier.isPrivate(method.getModifiers());
                check.holds(part + ": " + method.getName() + " is open or hidden", isOpen || isHidden);
                check.holds(part + ": " + method.getName() + " is a name of its own", isOpen || !names.contains(method.getName()));
                check.holds(part + ": " + method.getName() + " takes at most seven", method.getParameterCount() <= 7);
            }
            fields(part);
        }
    }

    private static List<Class<?>> parts() {
        List<Class<?>> list = new java.util.ArrayList<>(List.of(RavelKnit.class.getDeclaredClasses()));
        for (Class<?> part : list) {
            check.holds(part + " is static and private", Modifier.isStatic(part.getModifiers()) && Modifier.isPrivate(part.getModifiers()));
        }
        list.add(RavelKnit.class);
        check.holds("at most twelve classes", list.size() <= 12);
        return list;
    }

    private static void fields(Class<?> part) {
        int own = 0;
        for (Field field : part.getDeclaredFields()) {
            boolean isStatic = Modifier.isStatic(field.getModifiers());
            own += isStatic ? 0 : 1;
            check.holds(part + ": " + field.getName() + ", static, is final", !isStatic || Modifier.isFinal(field.getModifiers()));
            boolean isConstant = Arrays.asList("UNKNOWN", "OUTSIDE", "STATE", "FULL", "NO", "NONE", "GONE").contains(field.getName());
            boolean isPrivate = Modifier.isPrivate(field.getModifiers());
            check.holds(part + ": " + field.getName() + " is not seen", part != RavelKnit.class || isConstant || isPrivate);
        }
        check.holds(part + " has at most twenty fields", own <= 20);
    }

    private static String withoutComments(String text) {
        return text.replaceAll("(?s)/\\*.*?\\*/", "").replaceAll("//[^\n]*", "");
    }

    private static void words(String text) {
        check.part("words");
        String[] barred = {
            "\\bthrows?\\b", "\\btry\\b", "\\bcatch\\b", "\\bsynchronized\\b", "\\bassert\\b", "\\bimport\\b", "\\bpackage\\b",
            "\\bvolatile\\b", "\\bnative\\b", "\\bObject\\b", "\\bThread\\b", "\\bRandom\\b", "Exact\\b", "Exception\\b",
            "\\btoString\\b", "\\bhashCode\\b", "\\bfloat\\b", "\\bdouble\\b", "\\bSystem\\.(?!arraycopy)",
        };
        for (String word : barred) {
            check.holds("no " + word, !Pattern.compile(word).matcher(text).find());
        }
        check.holds("no lambda, no method reference", !text.contains("->") && !text.contains("::"));
        check.holds("no sign beyond 126", text.chars().allMatch(c -> c <= 126));
        check.holds("no text", !text.contains("\""));
    }

    /** A method's head is indented by four or eight, its end by as much. */
    private static void lengths(String text) {
        check.part("lengths");
        String[] lines = text.split("\n");
        for (int i = 0; i < lines.length; i++) {
            Matcher head = Pattern.compile("^( {4}| {8})(?!class|private static final class)[a-z].*\\) \\{$").matcher(lines[i]);
            if (!head.matches()) {
                continue;
            }
            int end = i;
            while (!lines[end].equals(head.group(1) + "}")) {
                end++;
            }
            check.holds(lines[i].trim() + " is of sixty lines at most", end - i < 60);
        }
    }

    /** Nothing is made but with the object: each 'new' is a field's. */
    private static void made(String text) {
        check.part("what is made");
        for (String line : text.split("\n")) {
            if (line.contains("new ")) {
                check.holds(line.trim() + " is a field", line.matches(" +(private )?final [\\w\\[\\]]+ \\w+ = new .*;"));
            }
        }
    }
}
