import java.io.IOException;
import java.lang.reflect.Constructor;
import java.lang.reflect.Field;
import java.lang.reflect.Method;
import java.lang.reflect.Modifier;
import java.nio.file.Files;
import java.nio.file.Path;
import java.util.ArrayList;
import java.util.List;
import java.util.Set;
import java.util.TreeSet;
import java.util.regex.Matcher;
import java.util.regex.Pattern;

/** The face of the document, by reflection, and what can be seen in the source of LANGUAGE.md's rules. */
public final class LanguageTest {
    private static final Due T = new Due("LanguageTest");
    private static final String[] FACE = {
        "int ask(int,int)", "int about(int,int)", "int begin(int,int)", "int bestMode(int,int)", "int bid(int,int)",
        "int carryOut()", "int count(int)", "int embolden(int,int)", "int fault()", "int fill(int,int)",
        "int forecast(int,int,int)", "int known(int,int)", "int last()", "int leastBid(int,int)", "int lot(int,int)",
        "int move()", "int pass(int)", "int player(int,int)", "int put(long)", "int restore(int)", "int save(int)",
        "int set(int,int)", "int setUp(int)", "int wipe()", "long canPay(int,int)", "long ways()"};
    private static final String[] CONSTANTS = {
        "NO_SUCH", "BAD_VALUE", "BAD_TEXT", "TOO_MANY", "NOT_POSSIBLE", "NONE", "START", "STEP", "STOPS", "SET",
        "RAINBOW", "COIN", "OPEN", "SEALED", "FALLING"};

    public static void main(String[] args) throws IOException {
        face();
        for (Class<?> inside : classes()) members(inside);
        T.due("rule 11: at most 12 classes", classes().size() <= 12 ? 1 : 0, 1);
        source(Files.readString(Path.of("src/main/java/PurseAuction.java")));
        T.end();
    }

    private static void holds(String what, boolean holds) {
        T.due(what, holds ? 1 : 0, 1);
    }

    private static List<Class<?>> classes() {
        List<Class<?>> all = new ArrayList<>(List.of(PurseAuction.class));
        all.addAll(List.of(PurseAuction.class.getDeclaredClasses()));
        return all;
    }

    private static String signature(Method method) {
        List<String> types = new ArrayList<>();
        for (Class<?> type : method.getParameterTypes()) types.add(type.getName());
        return method.getReturnType().getName() + " " + method.getName() + "(" + String.join(",", types) + ")";
    }

    private static void face() {
        Class<?> face = PurseAuction.class;
        holds("rule 1: public and final", Modifier.isPublic(face.getModifiers()) && Modifier.isFinal(face.getModifiers()));
        Set<String> found = new TreeSet<>();
        for (Method method : face.getDeclaredMethods()) {
            if (!Modifier.isPrivate(method.getModifiers())) found.add(signature(method));
        }
        holds("rule 1: the methods " + found, found.equals(new TreeSet<>(List.of(FACE))));
        Set<String> constants = new TreeSet<>();
        for (Field field : face.getDeclaredFields()) {
            if (!Modifier.isPrivate(field.getModifiers())) constants.add(field.getName());
        }
        holds("rule 1: the constants " + constants, constants.equals(new TreeSet<>(List.of(CONSTANTS))));
        Constructor<?>[] constructors = face.getDeclaredConstructors();
        holds("rule 1: one constructor", constructors.length == 1 && constructors[0].getParameterCount() == 0);
    }

    private static void members(Class<?> inside) {
        String name = inside.getSimpleName();
        if (inside != PurseAuction.class) {
            holds("rule 2: static: " + name, Modifier.isStatic(inside.getModifiers()));
            holds("rule 1: not public: " + name, !Modifier.isPublic(inside.getModifiers()));
        }
        Set<String> publicNames = new TreeSet<>();
        for (Method method : PurseAuction.class.getMethods()) publicNames.add(method.getName());
        for (Method method : inside.getDeclaredMethods()) {
            String call = name + "." + method.getName();
            holds("rule 11: at most 7 parameters: " + call, method.getParameterCount() <= 7);
            if (!Modifier.isPrivate(method.getModifiers())) continue;
            holds("rule 1: a name of its own: " + call, !publicNames.contains(method.getName()));
        }
        int fields = 0;
        for (Field field : inside.getDeclaredFields()) {
            if (!Modifier.isStatic(field.getModifiers())) fields++;
            else holds("rule 5: final: " + name + "." + field.getName(), Modifier.isFinal(field.getModifiers()));
        }
        holds("rule 11: at most 20 fields: " + name, fields <= 20);
    }

    private static void source(String source) {
        String code = source.replaceAll("(?s)/\\*.*?\\*/", "").replaceAll("//[^\n]*", "");
        String[] words = {"throw", "throws", "try", "catch", "finally", "synchronized", "assert", "import", "package",
            "double", "float", "Object", "protected", "Throwable", "Exception", "System\\.out", "Random", "Thread"};
        for (String word : words) {
            holds("rule 4 or 6: no " + word, !Pattern.compile("\\b" + word + "\\b").matcher(code).find());
        }
        holds("rule 2: no lambda and no method reference", !code.contains("->") && !code.contains("::"));
        holds("rule 5: no static block", !Pattern.compile("static\\s*\\{").matcher(code).find());
        holds("rule 10: no joining of texts by +", !code.contains("\""));
        holds("rule 4: signs 1 to 127", source.chars().allMatch(sign -> sign >= 1 && sign <= 127));
        Set<String> library = Set.of("Math.max", "Math.min", "Integer.bitCount", "System.arraycopy");
        Matcher used = Pattern.compile("\\b(?:Math|Integer|Long|System|Arrays|String|List|Iterator)\\.\\w+").matcher(code);
        while (used.find()) holds("rule 4: " + used.group(), library.contains(used.group()));
        holds("rule 3: no array of two dimensions", !code.contains("[]["));
        Matcher method = Pattern.compile("(?m)^( +)(?:public|private)[^=;]*\\) \\{\n((?:(?!\\1\\}).*\n)*)\\1\\}").matcher(code);
        int methods = 0;
        while (method.find()) {
            methods++;
            long length = method.group(2).lines().count();
            holds("rule 11: some sixty lines: " + method.group().lines().findFirst().get().trim(), length <= 60);
        }
        holds("the methods are found", methods > 100);
    }
}
