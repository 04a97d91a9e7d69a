import java.io.IOException;
import java.lang.reflect.Method;
import java.lang.reflect.Modifier;
import java.nio.file.Files;
import java.nio.file.Path;
import java.util.ArrayList;
import java.util.List;
import java.util.regex.Matcher;
import java.util.regex.Pattern;
import java.util.stream.Stream;

/** What README.md tells: the answers in its examples, the codes, and the names of all calls and tests. */
public final class ReadmeTest {
    private static final Due T = new Due("ReadmeTest");
    private static final String[] CODES = {"NO_SUCH", "BAD_VALUE", "BAD_TEXT", "TOO_MANY", "NOT_POSSIBLE", "NONE"};
    private static final Pattern EXAMPLE = Pattern.compile("(?ms)^```java\n(.*?)^```$");
    private static final Pattern NEW = Pattern.compile("PurseAuction x = new PurseAuction\\(\\);\\s+// .*");
    /** A call, and behind it as a comment its answer, alone or with words behind a colon. */
    private static final Pattern CALL = Pattern.compile("x\\.(\\w+)\\(([^()]*)\\);\\s+// (-?\\d+|[A-Z_]+)(: .*)?");

    public static void main(String[] args) throws IOException, ReflectiveOperationException {
        String readme = Files.readString(Path.of("README.md"));
        examples(readme);
        codes(readme);
        names(readme);
        T.end();
    }

    private static void holds(String what, boolean holds) {
        T.due(what, holds ? 1 : 0, 1);
    }

    private static void examples(String readme) throws ReflectiveOperationException {
        Matcher example = EXAMPLE.matcher(readme);
        int examples = 0;
        while (example.find()) {
            examples++;
            PurseAuction x = null;
            for (String line : example.group(1).split("\n")) {
                if (NEW.matcher(line).matches()) x = new PurseAuction();
                else call(x, line);
            }
        }
        holds("README.md has its examples", examples == 2);
    }

    private static void call(PurseAuction x, String line) throws ReflectiveOperationException {
        Matcher call = CALL.matcher(line);
        boolean isCall = x != null && call.matches();
        holds("a call with its answer: " + line, isCall);
        if (!isCall) return;
        String list = call.group(2);
        String[] words = list.isEmpty() ? new String[0] : list.split(", ");
        Method method = methodOf(call.group(1), words.length);
        holds("there is such a call: " + line, method != null);
        if (method == null) return;
        Object[] arguments = new Object[words.length];
        for (int i = 0; i < words.length; i++) arguments[i] = argument(words[i], method.getParameterTypes()[i]);
        long answer = ((Number) method.invoke(x, arguments)).longValue();
        T.due(line, answer, valueOf(call.group(3)));
    }

    private static Method methodOf(String name, int parameters) {
        for (Method method : PurseAuction.class.getDeclaredMethods()) {
            if (!Modifier.isPublic(method.getModifiers())) continue;
            if (method.getName().equals(name) && method.getParameterCount() == parameters) return method;
        }
        return null;
    }

    private static Object argument(String word, Class<?> type) throws ReflectiveOperationException {
        if (type == long.class) return Long.decode(word.replaceAll("L$", ""));
        return (int) valueOf(word.replaceAll("^PurseAuction\\.", ""));
    }

    /** The number that is meant by a number or by a constant's name. */
    private static long valueOf(String word) throws ReflectiveOperationException {
        if (word.matches("-?\\d+")) return Long.parseLong(word);
        return PurseAuction.class.getField(word).getInt(null);
    }

    private static void codes(String readme) throws ReflectiveOperationException {
        for (String code : CODES) {
            Matcher row = Pattern.compile("(?m)^\\| `" + code + "` \\| (-\\d+) \\| .+ \\|$").matcher(readme);
            holds("README.md tells what " + code + " means", row.find());
            T.due("README.md: " + code, row.reset().find() ? Long.parseLong(row.group(1)) : 0, valueOf(code));
        }
    }

    private static void names(String readme) throws IOException {
        for (Method method : PurseAuction.class.getDeclaredMethods()) {
            if (!Modifier.isPublic(method.getModifiers())) continue;
            String name = method.getName();
            holds("README.md names " + name, Pattern.compile("`" + name + "[`(]").matcher(readme).find());
        }
        List<String> tests = new ArrayList<>();
        try (Stream<Path> files = Files.list(Path.of("src/test/java"))) {
            files.map(file -> file.getFileName().toString()).filter(file -> file.endsWith("Test.java")).forEach(tests::add);
        }
        for (String test : tests) {
            String name = test.replace(".java", "");
            holds("README.md tells of " + name, readme.contains("`" + name + "`"));
        }
        holds("README.md tells how its tests are run", readme.contains("`.ci/run`"));
        holds("README.md tells for how many calls an object is meant", readme.contains("at most 512 calls"));
    }
}
