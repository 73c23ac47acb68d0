import java.io.IOException;
import java.lang.reflect.Constructor;
import java.lang.reflect.Field;
import java.lang.reflect.Method;
import java.lang.reflect.Modifier;
import java.nio.file.Files;
import java.nio.file.Path;
import java.util.ArrayList;
import java.util.List;
import java.util.Set;
import java.util.TreeSet;
import java.util.regex.Matcher;
import java.util.regex.Pattern;

/** The public face, and the rules of LANGUAGE.md that can be seen in the text. */
public final class FaceTest {
    private static final Checks CHECKS = new Checks("FaceTest");

    private static final String[] FACE = {
        "unit int int int", "broken int boolean", "length int int", "leave int", "stay", "clean",
        "parking int int", "narrow", "why", "park int", "clear", "at int int", "shunts", "step int",
        "leaves int", "ready int", "ends", "best int int", "late int int", "count int"
    };

    private static final String[] BARRED_WORDS = {
        "throw", "throws", "try", "catch", "finally", "synchronized", "assert", "package", "native",
        "volatile", "Exact", "Random", "Thread", "Class", "Object", "equals", "hashCode", "toString"
    };

    public static void main(String[] args) throws IOException {
        classIsFinal();
        constants();
        methodsOfFace();
        onlyFaceIsOpen();
        nestedClassesAreStatic();
        if (args.length > 0) {
            String text = withoutComments(Files.readString(Path.of(args[0])));
            barredWords(text);
            imports(text);
        }
        CHECKS.end();
    }

    private static void classIsFinal() {
        int modifiers = DepotNight.class.getModifiers();
        CHECKS.holds("public class", Modifier.isPublic(modifiers));
        CHECKS.holds("final class", Modifier.isFinal(modifiers));
        CHECKS.holds("no package", DepotNight.class.getPackageName().isEmpty());
    }

    private static void constants() {
        CHECKS.due("NONE", DepotNight.NONE, -1);
        CHECKS.due("UNKNOWN", DepotNight.UNKNOWN, -2);
        CHECKS.due("OUTSIDE", DepotNight.OUTSIDE, -3);
        CHECKS.due("NOT", DepotNight.NOT, -4);
        CHECKS.due("FULL", DepotNight.FULL, -5);
    }

    private static void methodsOfFace() {
        Set<String> open = new TreeSet<>();
        List<String> hidden = new ArrayList<>();
        addMethods(DepotNight.class, open, hidden);
        CHECKS.holds("methods " + open, open.equals(new TreeSet<>(List.of(FACE))));
        Set<String> names = new TreeSet<>();
        for (String method : FACE) {
            names.add(method.split(" ")[0]);
        }
        for (Class<?> nested : DepotNight.class.getDeclaredClasses()) {
            addMethods(nested, new TreeSet<>(), hidden);
        }
        for (String name : hidden) {
            CHECKS.holds("own name of " + name, !names.contains(name));
        }
    }

    private static void addMethods(Class<?> from, Set<String> open, List<String> hidden) {
        for (Method method : from.getDeclaredMethods()) {
            if (method.isSynthetic()) {
                continue;
            }
            if (!Modifier.isPublic(method.getModifiers())) {
                hidden.add(method.getName());
                continue;
            }
            StringBuilder row = new StringBuilder(method.getName());
            for (Class<?> type : method.getParameterTypes()) {
                row.append(' ').append(type.getName());
            }
            open.add(row.toString());
            CHECKS.holds(method.getName() + " answers int", method.getReturnType() == int.class);
        }
    }

    private static void onlyFaceIsOpen() {
        Set<String> constants = Set.of("NONE", "UNKNOWN", "OUTSIDE", "NOT", "FULL");
        for (Field field : DepotNight.class.getDeclaredFields()) {
            boolean isConstant = constants.contains(field.getName());
            CHECKS.holds("field " + field.getName(),
                Modifier.isPrivate(field.getModifiers()) != isConstant);
        }
        for (Method method : DepotNight.class.getDeclaredMethods()) {
            int modifiers = method.getModifiers();
            CHECKS.holds("method " + method.getName(), method.isSynthetic()
                || Modifier.isPublic(modifiers) || Modifier.isPrivate(modifiers));
        }
        Constructor<?>[] constructors = DepotNight.class.getDeclaredConstructors();
        CHECKS.due("constructors", constructors.length, 1);
        CHECKS.due("constructor's parameters", constructors[0].getParameterCount(), 0);
        CHECKS.holds("public constructor", Modifier.isPublic(constructors[0].getModifiers()));
    }

    private static void nestedClassesAreStatic() {
        Class<?>[] nested = DepotNight.class.getDeclaredClasses();
        CHECKS.holds("at most twelve classes", nested.length < 12);
        for (Class<?> type : nested) {
            CHECKS.holds("static " + type.getName(), Modifier.isStatic(type.getModifiers()));
            for (Field field : type.getDeclaredFields()) {
                int modifiers = field.getModifiers();
                CHECKS.holds("final if static: " + field.getName(),
                    !Modifier.isStatic(modifiers) || Modifier.isFinal(modifiers));
            }
            for (Method method : type.getDeclaredMethods()) {
                CHECKS.holds("parameters of " + method.getName(), method.getParameterCount() <= 7);
            }
        }
    }

    private static void barredWords(String text) {
        for (String word : BARRED_WORDS) {
            CHECKS.holds("no word " + word, !Pattern.compile("\\b" + word + "\\b").matcher(text).find());
        }
        CHECKS.holds("no lambda, no method reference", !text.contains("->") && !text.contains("::"));
    }

    private static void imports(String text) {
        Matcher matcher = Pattern.compile("import ([^;]*);").matcher(text);
        Set<String> known = Set.of("java.util.Arrays", "java.util.ArrayList", "java.util.List");
        while (matcher.find()) {
            CHECKS.holds("import " + matcher.group(1), known.contains(matcher.group(1)));
        }
    }

    private static String withoutComments(String text) {
        return text.replaceAll("(?s)/\\*.*?\\*/", "").replaceAll("//[^\n]*", "");
    }
}
