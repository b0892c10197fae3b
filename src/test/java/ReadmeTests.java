import java.io.IOException;
import java.lang.reflect.Method;
import java.nio.file.Files;
import java.nio.file.Path;
import java.util.List;
import java.util.regex.Matcher;
import java.util.regex.Pattern;

/** Makes the calls of README.md, in one run: behind each stands what it answers. */
public final class ReadmeTests {
    private static final Check check = new Check("readme");
    private static final Pattern CALL = Pattern.compile("x\\.(\\w+)\\(([^)]*)\\); +// (-?\\w+(?: \\+ \\w+)?): .+");
    private static final Pattern TEXT = Pattern.compile("say\\(x, \"([^\"]*)\"\\);( +// .+)?");

    public static void main(String[] args) throws Exception {
        callsOnThePage();
        whatThePageTells();
        check.end();
    }

    private static List<String> page() throws IOException {
        return Files.readAllLines(Path.of("README.md"));
    }

    private static void callsOnThePage() throws Exception {
        RavelKnit x = new RavelKnit();
        boolean isCode = false;
        int calls = 0;
        for (String line : page()) {
            check.part(line);
            if (line.startsWith("```")) {
                isCode = line.equals("```java");
                continue;
            }
            Matcher text = TEXT.matcher(line);
            Matcher call = CALL.matcher(line);
            if (isCode && text.matches()) {
                Check.say(x, text.group(1));
            } else if (isCode && call.matches()) {
                check.is("x." + call.group(1), answer(x, call.group(1), call.group(2)), due(call.group(3)));
                calls++;
            } else if (isCode) {
                check.holds("is a line that is known", isOfTheHelper(line) || line.equals("RavelKnit x = new RavelKnit();"));
            }
        }
        check.part("the page");
        check.holds("it has calls", calls > 40);
    }

    private static boolean isOfTheHelper(String line) {
        return List.of("static void say(RavelKnit x, String text) {", "    for (char sign : text.toCharArray()) {",
                "        x.say(sign);", "    }", "}").contains(line);
    }

    private static long answer(RavelKnit x, String name, String numbers) throws Exception {
        String[] texts = numbers.isEmpty() ? new String[0] : numbers.split(", ");
        for (Method method : RavelKnit.class.getMethods()) {
            if (method.getName().equals(name) && method.getParameterCount() == texts.length) {
                Object[] given = new Object[texts.length];
                for (int i = 0; i < given.length; i++) {
                    boolean isFlag = method.getParameterTypes()[i] == boolean.class;
                    given[i] = isFlag ? (Object) texts[i].equals("true") : (Object) Integer.valueOf(texts[i]);
                }
                return ((Number) method.invoke(x, given)).longValue();
            }
        }
        throw new IllegalStateException("there is no " + name + " of " + texts.length);
    }

    /** A number, a constant's name, or two of them added. */
    private static long due(String text) throws Exception {
        long sum = 0;
        for (String part : text.split(" \\+ ")) {
            sum += part.matches("-?\\d+") ? Long.parseLong(part) : RavelKnit.class.getField(part).getLong(null);
        }
        return sum;
    }

    private static void whatThePageTells() throws IOException {
        check.part("what the page tells");
        String page = String.join("\n", page());
        for (Method method : RavelKnit.class.getDeclaredMethods()) {
            boolean isOpen = java.lang.reflect.Modifier.isPublic(method.getModifiers());
            check.holds(method.getName() + " is used on the page", !isOpen || page.contains("x." + method.getName() + "("));
        }
        for (String constant : new String[] {"UNKNOWN", "OUTSIDE", "STATE", "FULL", "NO", "NONE", "GONE"}) {
            check.holds(constant + " is told of", page.contains("`" + constant + "`"));
        }
        for (java.io.File file : new java.io.File("src/test/java").listFiles()) {
            String name = file.getName().replace(".java", "");
            check.holds(name + " is told of", !name.endsWith("Tests") || page.contains("`" + name + "`"));
        }
    }
}
