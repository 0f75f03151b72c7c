import java.io.IOException;
import java.lang.reflect.Field;
import java.lang.reflect.Method;
import java.lang.reflect.Modifier;
import java.nio.file.Files;
import java.nio.file.Path;
import java.util.Arrays;
import java.util.List;
import java.util.Set;
import java.util.TreeSet;
import java.util.regex.Matcher;
import java.util.regex.Pattern;
import java.util.stream.Collectors;

/** The face of the document, and those rules of LANGUAGE.md that can be seen from the class or its text. */
public final class LanguageTest {
    private static final Path SOURCE = Path.of("src/main/java/HungMobile.java");
    private static final String[] FACE = {"letter(int)", "blank()", "fault()", "mobile()", "rod(int,int)", "thing(int,int)",
        "as(int,int)", "hour()", "exchange(int,int)", "move(int,int)", "cut(int)", "drop(int)", "mend()", "change(int,int,int)",
        "best()", "lay(int)", "even()", "odds(int)", "see(int,int,int,int)", "forget()", "trial(int,int)",
        "evenings(int,int,int)", "image()", "restore()", "count(int)", "digest()"};
    private static final String[] CONSTANTS = {"NONE", "UNKNOWN", "OUTSIDE", "STATE", "FULL", "FAR", "TOLD"};

    public static void main(String[] args) throws IOException {
        theFace();
        membersOf(HungMobile.class);
        for (Class<?> inside : HungMobile.class.getDeclaredClasses()) {
            Due.holds(inside + " is static", Modifier.isStatic(inside.getModifiers()));
            Due.holds(inside + " is not public", !Modifier.isPublic(inside.getModifiers()) && !Modifier.isProtected(inside.getModifiers()));
            membersOf(inside);
        }
        Due.holds("at most twelve classes", HungMobile.class.getDeclaredClasses().length < 12);
        theText(Files.readString(SOURCE));
        Due.end();
    }

    private static void theFace() {
        Due.is("modifiers", HungMobile.class.getModifiers(), Modifier.PUBLIC | Modifier.FINAL);
        Set<String> methods = new TreeSet<>();
        for (Method method : HungMobile.class.getDeclaredMethods()) {
            if (!Modifier.isPrivate(method.getModifiers())) {
                methods.add(nameOf(method));
                Due.is(method + " modifiers", method.getModifiers(), Modifier.PUBLIC);
                Due.holds(method + " type", method.getReturnType() == (method.getName().equals("digest") ? long.class : int.class));
            }
        }
        Due.holds("methods " + methods, methods.equals(new TreeSet<>(Arrays.asList(FACE))));
        Set<String> constants = new TreeSet<>();
        for (Field field : HungMobile.class.getDeclaredFields()) {
            if (!Modifier.isPrivate(field.getModifiers())) {
                constants.add(field.getName());
                Due.is(field + " modifiers", field.getModifiers(), Modifier.PUBLIC | Modifier.STATIC | Modifier.FINAL);
            }
        }
        Due.holds("constants " + constants, constants.equals(new TreeSet<>(Arrays.asList(CONSTANTS))));
        Due.is("constructors", HungMobile.class.getDeclaredConstructors().length, 1);
        Due.is("the constructor's modifiers", HungMobile.class.getDeclaredConstructors()[0].getModifiers(), Modifier.PUBLIC);
    }

    private static String nameOf(Method method) {
        return method.getName() + Arrays.stream(method.getParameterTypes()).map(Class::getName).collect(Collectors.joining(",", "(", ")"));
    }

    private static void membersOf(Class<?> type) {
        int fields = 0;
        for (Field field : type.getDeclaredFields()) {
            boolean isStatic = Modifier.isStatic(field.getModifiers());
            Due.holds(field + " is final, if static", !isStatic || Modifier.isFinal(field.getModifiers()));
            fields += isStatic ? 0 : 1;
        }
        Due.holds(type + " has at most twenty fields", fields <= 20);
        Set<String> names = Arrays.stream(FACE).map(call -> call.substring(0, call.indexOf('('))).collect(Collectors.toSet());
        for (Method method : type.getDeclaredMethods()) {
            Due.holds(method + " takes at most seven", method.getParameterCount() <= 7);
            boolean isFace = type == HungMobile.class && Modifier.isPublic(method.getModifiers());
            Due.holds(method + " has a name of its own", isFace || !names.contains(method.getName()));
        }
    }

    private static void theText(String source) {
        String code = source.replaceAll("(?s)/\\*.*?\\*/", "").replaceAll("//[^\n]*", "").replaceAll("\"[^\"\n]*\"", "\"\"");
        for (String word : List.of("package", "import", "throw", "throws", "try", "catch", "synchronized", "assert", "protected",
                "double", "float", "System", "Object", "Thread", "transient", "volatile", "native", "record", "this")) {
            Due.holds("no " + word, !Pattern.compile("\\b" + word + "\\b").matcher(code).find());
        }
        Due.holds("no lambda, no method reference", !code.contains("->") && !code.contains("::"));
        Due.holds("no rounded calls that throw", !code.contains("Exact"));
        Due.holds("signs are plain", source.chars().allMatch(c -> c == '\n' || c >= 32 && c < 127));
        nothingIsMadeByCalls(code);
        methodsAreShort(code);
    }

    /** All calls share one room: what they need is made once, with the object. */
    private static void nothingIsMadeByCalls(String code) {
        Matcher made = Pattern.compile("(?m)^.*\\bnew\\b.*$").matcher(code);
        while (made.find()) {
            String line = made.group();
            boolean withField = line.matches(" {8}(private )?final [\\w\\[\\]]+ \\w+ = new .*;");
            boolean inConstructor = line.matches(" {8}\\w+ = new \\w+\\(\\);");
            Due.holds("made with the object: " + line, withField || inConstructor);
        }
    }

    private static void methodsAreShort(String code) {
        Matcher method = Pattern.compile("(?ms)^( {4}| {8})(?=\\S)(?!private static final class)(?=[^\n;=]*\\)\\s*\\{$)[^\n]*\\{$.*?^\\1\\}$").matcher(code);
        int found = 0;
        while (method.find()) {
            found++;
            long lines = method.group().lines().count();
            Due.holds("at most sixty lines: " + method.group().lines().findFirst().orElse(""), lines <= 60);
        }
        Due.holds("methods were found", found > 60);
    }
}
