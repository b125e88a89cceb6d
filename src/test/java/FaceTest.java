import java.io.IOException;
import java.lang.reflect.Constructor;
import java.lang.reflect.Field;
import java.lang.reflect.Method;
import java.lang.reflect.Modifier;
import java.util.Arrays;
import java.util.Set;
import java.util.TreeSet;
import java.util.regex.Matcher;
import java.util.regex.Pattern;

/** The public face as the document has it, and what LANGUAGE.md's rules 1, 2, 5 and 11 say of the classes. */
public final class FaceTest {
    private static final Check CHECK = new Check("FaceTest");
    private static final Pattern METHOD = Pattern.compile("^    public (int|long) (\\w+)\\(([^)]*)\\);$", Pattern.MULTILINE);
    private static final Pattern CONSTANTS = Pattern.compile("^    public static final int (.*);$", Pattern.MULTILINE);

    public static void main(String[] args) throws IOException, ReflectiveOperationException {
        String face = new Document().section("The public face");
        constants(face);
        methods(face);
        members();
        insideClasses();
        CHECK.end();
    }

    private static void constants(String face) throws ReflectiveOperationException {
        Matcher told = CONSTANTS.matcher(face);
        CHECK.due("the document tells constants", told.find() ? 1 : 0, 1);
        String[] constants = told.group(1).split(", ");
        for (String constant : constants) {
            String[] nameAndNumber = constant.split(" = ");
            Field field = TripCalls.class.getField(nameAndNumber[0]);
            CHECK.due(nameAndNumber[0], field.getInt(null), Integer.parseInt(nameAndNumber[1]));
            CHECK.due("int " + nameAndNumber[0], field.getType() == int.class ? 1 : 0, 1);
        }
        CHECK.due("public fields", TripCalls.class.getFields().length, constants.length);
    }

    private static Set<String> methodsOf(String face) {
        Set<String> told = new TreeSet<>();
        Matcher method = METHOD.matcher(face);
        while (method.find()) {
            String types = method.group(3).replaceAll(" \\w+(,|$) *", "$1");
            told.add(method.group(1) + " " + method.group(2) + "(" + types + ")");
        }
        return told;
    }

    private static void methods(String face) {
        Set<String> got = new TreeSet<>();
        Set<String> publicNames = new TreeSet<>();
        for (Method m : TripCalls.class.getDeclaredMethods()) {
            if (Modifier.isPublic(m.getModifiers())) {
                String types = Arrays.toString(m.getParameterTypes()).replaceAll("[\\[\\] ]", "");
                got.add(m.getReturnType() + " " + m.getName() + "(" + types + ")");
                publicNames.add(m.getName());
            }
        }
        Set<String> want = methodsOf(face);
        CHECK.due("methods of the document", want.size(), 43);
        CHECK.due("methods " + got + ", due are " + want, got.equals(want) ? 1 : 0, 1);
        for (Class<?> c : withInside()) {
            for (Method m : c.getDeclaredMethods()) {
                boolean clash = !Modifier.isPublic(m.getModifiers()) && publicNames.contains(m.getName());
                CHECK.due(c.getName() + "." + m.getName() + " bears a public name", clash ? 1 : 0, 0);
                CHECK.due(m + " takes too many", m.getParameterCount() > 7 ? 1 : 0, 0);
            }
        }
    }

    private static void members() {
        CHECK.due("final", Modifier.isFinal(TripCalls.class.getModifiers()) ? 1 : 0, 1);
        for (Constructor<?> c : TripCalls.class.getDeclaredConstructors()) {
            CHECK.due("constructor " + c, c.getParameterCount() + (Modifier.isPublic(c.getModifiers()) ? 0 : 1), 0);
        }
        for (Method m : TripCalls.class.getDeclaredMethods()) {
            boolean hidden = Modifier.isPrivate(m.getModifiers());
            CHECK.due("visible " + m, hidden || Modifier.isPublic(m.getModifiers()) ? 0 : 1, 0);
        }
        for (Field f : TripCalls.class.getDeclaredFields()) {
            boolean hidden = Modifier.isPrivate(f.getModifiers());
            CHECK.due("visible " + f, hidden || Modifier.isPublic(f.getModifiers()) ? 0 : 1, 0);
        }
    }

    private static void insideClasses() {
        Class<?>[] all = withInside();
        CHECK.due("classes", all.length <= 12 ? 1 : 0, 1);
        for (Class<?> c : all) {
            int fields = 0;
            for (Field f : c.getDeclaredFields()) {
                boolean isStatic = Modifier.isStatic(f.getModifiers());
                fields += isStatic ? 0 : 1;
                CHECK.due("static, not final " + f, isStatic && !Modifier.isFinal(f.getModifiers()) ? 1 : 0, 0);
                CHECK.due("type of " + f, isStatic && !isConstantType(f.getType()) ? 1 : 0, 0);
            }
            CHECK.due(c.getName() + " has too many fields", fields > 20 ? 1 : 0, 0);
            CHECK.due(c + " is static", c == TripCalls.class || Modifier.isStatic(c.getModifiers()) ? 1 : 0, 1);
        }
    }

    private static boolean isConstantType(Class<?> type) {
        return Arrays.asList(int.class, long.class, boolean.class, char.class, String.class,
            int[].class, long[].class, char[].class, byte[].class).contains(type);
    }

    private static Class<?>[] withInside() {
        Class<?>[] inside = TripCalls.class.getDeclaredClasses();
        Class<?>[] all = Arrays.copyOf(inside, inside.length + 1);
        all[inside.length] = TripCalls.class;
        return all;
    }
}
