import java.io.IOException;
import java.lang.reflect.Executable;
import java.lang.reflect.Field;
import java.lang.reflect.Modifier;
import java.nio.file.Files;
import java.nio.file.Path;
import java.util.ArrayList;
import java.util.Arrays;
import java.util.List;
import java.util.Set;
import java.util.TreeSet;
import java.util.regex.Matcher;
import java.util.regex.Pattern;

/** The rules of LANGUAGE.md that can be read off the program's text and its classes. */
public final class LanguageTest {
    private static final Check CHECK = new Check("LanguageTest");
    private static final Path PROGRAM = Path.of("src/main/java/DepotServer.java");
    private static final int MOST_CLASSES = 12;
    private static final int MOST_FIELDS = 20;
    private static final int MOST_PARAMETERS = 7;
    private static final int MOST_LINES = 60;
    /** Less than the rules allow, but all that the program needs. */
    private static final Set<String> LIBRARY = Set.of("Math.max", "Math.min", "System.arraycopy");
    private static final Pattern FORBIDDEN = Pattern.compile("\\b(package|import|throw|throws|try|catch|finally"
        + "|synchronized|assert|native|volatile|strictfp|double|float|String|yield|var)\\b|->|::|\"");

    public static void main(String[] args) throws IOException {
        String code = withoutComments(Files.readString(PROGRAM));
        words(code);
        library(code);
        methodLengths(code);
        List<Class<?>> classes = new ArrayList<>(List.of(DepotServer.class.getDeclaredClasses()));
        classes.add(DepotServer.class);
        CHECK.due("rule 11: classes", classes.size() <= MOST_CLASSES, true);
        for (Class<?> one : classes) {
            fields(one);
            parameters(one);
        }
        CHECK.end();
    }

    private static String withoutComments(String text) {
        return text.replaceAll("(?s)/\\*.*?\\*/", "").replaceAll("//[^\n]*", "");
    }

    private static void words(String code) {
        Matcher found = FORBIDDEN.matcher(code);
        while (found.find()) {
            CHECK.due("rules 2 to 6: how often the program says " + found.group(), 1, 0);
        }
    }

    /** A name with a capital and small letters is a class: one of the program's own, or the library's. */
    private static void library(String code) {
        Set<String> own = new TreeSet<>(Set.of("DepotServer"));
        for (Class<?> inside : DepotServer.class.getDeclaredClasses()) {
            own.add(inside.getSimpleName());
        }
        Matcher found = Pattern.compile("\\b[A-Z][A-Za-z]*[a-z][A-Za-z]*\\b(\\.\\w+)?").matcher(code);
        while (found.find()) {
            boolean known = LIBRARY.contains(found.group()) || own.contains(found.group().replaceAll("\\..*", ""));
            CHECK.due("rule 4: " + found.group() + " is known", known, true);
        }
    }

    private static void methodLengths(String code) {
        Matcher found = Pattern.compile("(?m)^( +)[\\w\\[\\] ]+\\([^;]*?\\) \\{\n(?s:.*?)^\\1\\}").matcher(code);
        int methods = 0;
        while (found.find()) {
            methods++;
            long lines = found.group().lines().count();
            CHECK.due("rule 11: lines of" + found.group().lines().findFirst().get() + " " + lines,
                lines <= MOST_LINES, true);
        }
        CHECK.due("methods were found", methods > 60, true);
    }

    private static void fields(Class<?> one) {
        int own = 0;
        for (Field field : one.getDeclaredFields()) {
            boolean isStatic = Modifier.isStatic(field.getModifiers());
            own += isStatic ? 0 : 1;
            CHECK.due("rule 5: " + field + " is final or not static",
                !isStatic || Modifier.isFinal(field.getModifiers()), true);
            CHECK.due("rule 3: " + field + " has one dimension at most",
                field.getType().getName().startsWith("[["), false);
        }
        CHECK.due("rule 11: " + one + " has few fields", own <= MOST_FIELDS, true);
    }

    private static void parameters(Class<?> one) {
        List<Executable> all = new ArrayList<>(Arrays.asList(one.getDeclaredMethods()));
        all.addAll(Arrays.asList(one.getDeclaredConstructors()));
        for (Executable each : all) {
            CHECK.due("rule 11: " + each + " has few parameters", each.getParameterCount() <= MOST_PARAMETERS, true);
            CHECK.due("rule 2: " + each + " is no lambda", each.isSynthetic(), false);
        }
    }
}
