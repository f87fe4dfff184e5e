import java.io.IOException;
import java.lang.reflect.Constructor;
import java.lang.reflect.Field;
import java.lang.reflect.Method;
import java.lang.reflect.Modifier;
import java.nio.file.Files;
import java.nio.file.Path;
import java.util.ArrayList;
import java.util.Arrays;
import java.util.List;
import java.util.Set;
import java.util.TreeSet;
import java.util.stream.Collectors;

/** The face that the document names and no other, and what LANGUAGE.md rules out that a word in the source betrays. */
public final class FaceTest {
    private static final Check check = new Check();
    private static final Set<String> CALLS = new TreeSet<>(List.of(
        "int letter(int)", "int blank()", "int fault()", "int round()", "int about(int,int)", "int as(int,int)",
        "int letters(int,int)", "int leave(int,boolean)", "int swap(int,int)", "int day()", "int best(int)",
        "int known(int,int)", "int forget()", "int sets(int)", "int ask()", "int weeks(int,int,int)", "int image()",
        "int restore()", "int count(int)", "long digest()"));
    private static final String[] RULED_OUT = {
        "->", "::", "@", "import ", "try ", "catch", "finally", "throw ", "assert", "synchronized", "package ", "protected ",
        "System.out", "nanoTime", "currentTime", "Random", "Thread", "Exact(", "static {", "double", "float", "Integer.",
    };

    public static void main(String[] args) throws IOException {
        theClass();
        theCalls();
        theConstants();
        theClassesInside();
        theSizes();
        theSource();
        check.end();
    }

    private static void theClass() {
        int modifiers = MilkRound.class.getModifiers();
        check.due("public and final", Modifier.isPublic(modifiers) && Modifier.isFinal(modifiers) ? 1 : 0, 1);
        Constructor<?>[] made = MilkRound.class.getDeclaredConstructors();
        check.due("constructors", made.length, 1);
        check.due("public constructors without parameters", Modifier.isPublic(made[0].getModifiers()) && made[0].getParameterCount() == 0 ? 1 : 0, 1);
    }

    private static void theCalls() {
        Set<String> found = new TreeSet<>();
        for (Method method : MilkRound.class.getDeclaredMethods()) {
            if (!Modifier.isPrivate(method.getModifiers())) {
                found.add(method.getReturnType().getName() + " " + method.getName()
                    + Arrays.stream(method.getParameterTypes()).map(Class::getName).collect(Collectors.joining(",", "(", ")")));
            }
        }
        check.due("the calls " + found, found.equals(CALLS) ? 1 : 0, 1);
    }

    private static void theConstants() {
        Set<String> found = new TreeSet<>();
        for (Field field : MilkRound.class.getDeclaredFields()) {
            if (!Modifier.isPrivate(field.getModifiers())) {
                found.add(field.getName());
            }
        }
        check.due("the constants " + found, found.equals(Set.of("NONE", "UNKNOWN", "OUTSIDE", "STATE", "FULL")) ? 1 : 0, 1);
        check.due("NONE", MilkRound.NONE, -1);
        check.due("UNKNOWN", MilkRound.UNKNOWN, -101);
        check.due("OUTSIDE", MilkRound.OUTSIDE, -102);
        check.due("STATE", MilkRound.STATE, -103);
        check.due("FULL", MilkRound.FULL, -104);
    }

    private static void theClassesInside() {
        Set<String> faceNames = CALLS.stream().map(call -> call.replaceAll("^\\w+ |\\(.*", "")).collect(Collectors.toSet());
        for (Class<?> inside : MilkRound.class.getDeclaredClasses()) {
            int modifiers = inside.getModifiers();
            check.due(inside + " is static and not public", Modifier.isStatic(modifiers) && !Modifier.isPublic(modifiers) ? 1 : 0, 1);
            for (Method method : inside.getDeclaredMethods()) {
                check.due(method + " bears a name of the face", faceNames.contains(method.getName()) ? 1 : 0, 0);
            }
            for (Field field : inside.getDeclaredFields()) {
                check.due(field + " is static and not final",
                    Modifier.isStatic(field.getModifiers()) && !Modifier.isFinal(field.getModifiers()) ? 1 : 0, 0);
            }
        }
        check.due("at most twelve classes", MilkRound.class.getDeclaredClasses().length + 1 <= 12 ? 1 : 0, 1);
        for (Method method : MilkRound.class.getDeclaredMethods()) {
            check.due(method + " is private and bears a name of the face",
                Modifier.isPrivate(method.getModifiers()) && faceNames.contains(method.getName()) ? 1 : 0, 0);
        }
    }

    private static void theSizes() {
        List<Class<?>> all = new ArrayList<>(List.of(MilkRound.class.getDeclaredClasses()));
        all.add(MilkRound.class);
        for (Class<?> each : all) {
            long fields = Arrays.stream(each.getDeclaredFields()).filter(field -> !Modifier.isStatic(field.getModifiers())).count();
            check.due(each + " has at most twenty fields", fields <= 20 ? 1 : 0, 1);
            for (Method method : each.getDeclaredMethods()) {
                check.due(method + " has at most seven parameters", method.getParameterCount() <= 7 ? 1 : 0, 1);
            }
        }
    }

    private static void theSource() throws IOException {
        String source = Files.readString(Path.of("src/main/java/MilkRound.java"));
        for (String word : RULED_OUT) {
            check.due("'" + word + "' stands in the source", source.contains(word) ? 1 : 0, 0);
        }
        check.due("signs above 126", source.chars().filter(sign -> sign > 126).count(), 0);
    }
}
