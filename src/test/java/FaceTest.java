import java.io.IOException;
import java.lang.reflect.Constructor;
import java.lang.reflect.Field;
import java.lang.reflect.Method;
import java.lang.reflect.Modifier;
import java.nio.file.Files;
import java.nio.file.Path;
import java.util.Arrays;
import java.util.HashSet;
import java.util.List;
import java.util.Set;
import java.util.TreeSet;

/** The public face, and those rules of LANGUAGE.md that can be seen from outside. */
public final class FaceTest {
    private static final Check CHECK = new Check();
    private static final Set<String> FACE = new TreeSet<>(List.of(
        "boolean type(long,int)", "int module()", "int fault(int)", "int program(int,int)", "int make(int)",
        "int tick(int,int)", "int out(int)", "int stands(int)", "boolean back(int,int)", "int ticks(int)",
        "int search(int,int,int)", "int differ(int,int,int)", "int run(int)", "int total(int)"));

    public static void main(String[] args) throws IOException {
        methods();
        fields();
        constructors();
        classesInside();
        source();
        CHECK.end();
    }

    private static void methods() {
        Set<String> seen = new TreeSet<>();
        Set<String> publicNames = new HashSet<>();
        Set<String> otherNames = new HashSet<>();
        for (Method method : SignalHouse.class.getDeclaredMethods()) {
            if (Modifier.isPrivate(method.getModifiers())) {
                otherNames.add(method.getName());
                continue;
            }
            CHECK.due(method + " is public", Modifier.isPublic(method.getModifiers()), true);
            CHECK.due(method + " is no static one", Modifier.isStatic(method.getModifiers()), false);
            publicNames.add(method.getName());
            StringBuilder told = new StringBuilder(method.getReturnType() + " " + method.getName() + "(");
            for (Class<?> type : method.getParameterTypes()) {
                told.append(told.charAt(told.length() - 1) == '(' ? "" : ",").append(type);
            }
            seen.add(told.append(')').toString());
            boolean throwing = Arrays.asList(method.getExceptionTypes()).equals(List.of(IllegalArgumentException.class));
            CHECK.due(method + " tells what it throws", throwing, method.getName().equals("module"));
        }
        CHECK.due("the methods " + seen, seen.equals(FACE), true);
        otherNames.retainAll(publicNames);
        CHECK.due("private methods with public names " + otherNames, otherNames.size(), 0);
    }

    private static void fields() {
        int open = 0;
        for (Field field : SignalHouse.class.getDeclaredFields()) {
            boolean fixed = Modifier.isFinal(field.getModifiers());
            CHECK.due(field + " is no static state", Modifier.isStatic(field.getModifiers()) && !fixed, false);
            if (!Modifier.isPrivate(field.getModifiers())) {
                open++;
                CHECK.due(field + " is NONE", field.getName().equals("NONE") && Modifier.isPublic(field.getModifiers()), true);
            }
        }
        CHECK.due("fields to be seen", open, 1);
        CHECK.due("NONE", SignalHouse.NONE, -1);
    }

    private static void constructors() {
        Constructor<?>[] all = SignalHouse.class.getDeclaredConstructors();
        CHECK.due("constructors", all.length, 1);
        CHECK.due("it is public", Modifier.isPublic(all[0].getModifiers()), true);
        CHECK.due("its parameters", all[0].getParameterCount(), 0);
        CHECK.due("the class is final", Modifier.isFinal(SignalHouse.class.getModifiers()), true);
    }

    private static void classesInside() {
        Class<?>[] inside = SignalHouse.class.getDeclaredClasses();
        CHECK.due("at most twelve classes", inside.length <= 11, true);
        for (Class<?> one : inside) {
            CHECK.due(one + " is static", Modifier.isStatic(one.getModifiers()), true);
            CHECK.due(one + " is not public", Modifier.isPublic(one.getModifiers()), false);
            int state = 0;
            for (Field field : one.getDeclaredFields()) {
                boolean belongsToClass = Modifier.isStatic(field.getModifiers());
                CHECK.due(field + " is no static state", belongsToClass && !Modifier.isFinal(field.getModifiers()), false);
                state += belongsToClass ? 0 : 1;
            }
            CHECK.due(one + " has some twenty fields", state <= 20, true);
        }
    }

    private static void source() throws IOException {
        String source = Files.readString(Path.of("src/main/java/SignalHouse.java"));
        String[] none = {"->", "::", "catch", "finally", "synchronized", "assert", "package ", "System.", "Thread", "Object",
            "hashCode", "toString", "instanceof", "Exact(", "double", "float"};
        for (String word : none) {
            CHECK.due("the source has " + word, source.contains(word), false);
        }
        int imports = 0;
        int throwing = 0;
        for (String line : source.split("\n")) {
            imports += line.startsWith("import ") && !line.equals("import java.util.Arrays;") ? 1 : 0;
            throwing += line.contains("throw new ") ? 1 : 0;
        }
        CHECK.due("other imports", imports, 0);
        CHECK.due("places that throw", throwing, 1);
    }
}
