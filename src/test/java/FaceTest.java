import java.lang.reflect.Constructor;
import java.lang.reflect.Field;
import java.lang.reflect.Method;
import java.lang.reflect.Modifier;
import java.util.Arrays;
import java.util.Set;
import java.util.TreeSet;

/** The public face as the document has it, and what LANGUAGE.md's rules 1, 2, 5 and 11 say of the classes. */
public final class FaceTest {
    private static final Check CHECK = new Check("FaceTest");
    private static final String[] FACE = {
        "int row(int,int)", "int lay(int,int,int)", "int at(int,int)", "int tear(int)",
        "int copy(int,int,int,int,int)", "int mean(int)", "int text(int,int)", "int put(int,int,int)",
        "int fault(int)", "int house(int)", "int caller(int,int)", "int mark(int,int)", "int up(int)",
        "int step()", "int flip(int)", "int room(int)", "int limit(int,int)", "int reset(int)", "int undo(int)",
        "int keep(int)", "int on(int)", "int calls()", "int later(int,int)", "int trips(int)", "int worst()",
        "int best(int)", "int mend(int)", "int tune(int,int)", "int hush(int)", "int patterns(int)",
        "int kinds(int,int)", "int test(int,int)", "int duel(int)", "int odds(int,int)", "int mid(int)",
        "int lots(int,int)", "int asked()", "long upper()", "long lower()", "int count(int)", "int finding()",
        "int findings(int)", "long digest()"};

    public static void main(String[] args) {
        constants();
        methods();
        members();
        insideClasses();
        CHECK.end();
    }

    private static void constants() {
        CHECK.due("BAD", TripCalls.BAD, -1);
        CHECK.due("FULL", TripCalls.FULL, -2);
        CHECK.due("FINDING", TripCalls.FINDING, -3);
        CHECK.due("STATE", TripCalls.STATE, -4);
        CHECK.due("SPENT", TripCalls.SPENT, -6);
        CHECK.due("NONE", TripCalls.NONE, -9);
        CHECK.due("public fields", TripCalls.class.getFields().length, 6);
    }

    private static void methods() {
        Set<String> got = new TreeSet<>();
        Set<String> publicNames = new TreeSet<>();
        for (Method m : TripCalls.class.getDeclaredMethods()) {
            if (Modifier.isPublic(m.getModifiers())) {
                String types = Arrays.toString(m.getParameterTypes()).replaceAll("[\\[\\] ]", "");
                got.add(m.getReturnType() + " " + m.getName() + "(" + types + ")");
                publicNames.add(m.getName());
            }
        }
        Set<String> want = new TreeSet<>(Arrays.asList(FACE));
        CHECK.due("methods " + got, got.equals(want) ? 1 : 0, 1);
        for (Class<?> c : withInside()) {
            for (Method m : c.getDeclaredMethods()) {
                boolean clash = !Modifier.isPublic(m.getModifiers()) && publicNames.contains(m.getName());
                CHECK.due(c.getName() + "." + m.getName() + " bears a public name", clash ? 1 : 0, 0);
                CHECK.due(m + " takes too many", m.getParameterCount() > 7 ? 1 : 0, 0);
            }
        }
    }

    private static void members() {
        CHECK.due("final", Modifier.isFinal(TripCalls.class.getModifiers()) ? 1 : 0, 1);
        for (Constructor<?> c : TripCalls.class.getDeclaredConstructors()) {
            CHECK.due("constructor " + c, c.getParameterCount() + (Modifier.isPublic(c.getModifiers()) ? 0 : 1), 0);
        }
        for (Method m : TripCalls.class.getDeclaredMethods()) {
            boolean hidden = Modifier.isPrivate(m.getModifiers());
            CHECK.due("visible " + m, hidden || Modifier.isPublic(m.getModifiers()) ? 0 : 1, 0);
        }
        for (Field f : TripCalls.class.getDeclaredFields()) {
            boolean hidden = Modifier.isPrivate(f.getModifiers());
            CHECK.due("visible " + f, hidden || Modifier.isPublic(f.getModifiers()) ? 0 : 1, 0);
        }
    }

    private static void insideClasses() {
        Class<?>[] all = withInside();
        CHECK.due("classes", all.length <= 12 ? 1 : 0, 1);
        for (Class<?> c : all) {
            int fields = 0;
            for (Field f : c.getDeclaredFields()) {
                boolean isStatic = Modifier.isStatic(f.getModifiers());
                fields += isStatic ? 0 : 1;
                CHECK.due("static, not final " + f, isStatic && !Modifier.isFinal(f.getModifiers()) ? 1 : 0, 0);
                CHECK.due("type of " + f, isStatic && !isConstantType(f.getType()) ? 1 : 0, 0);
            }
            CHECK.due(c.getName() + " has too many fields", fields > 20 ? 1 : 0, 0);
            CHECK.due(c + " is static", c == TripCalls.class || Modifier.isStatic(c.getModifiers()) ? 1 : 0, 1);
        }
    }

    private static boolean isConstantType(Class<?> type) {
        return Arrays.asList(int.class, long.class, boolean.class, char.class, String.class,
            int[].class, long[].class, char[].class, byte[].class).contains(type);
    }

    private static Class<?>[] withInside() {
        Class<?>[] inside = TripCalls.class.getDeclaredClasses();
        Class<?>[] all = Arrays.copyOf(inside, inside.length + 1);
        all[inside.length] = TripCalls.class;
        return all;
    }
}
