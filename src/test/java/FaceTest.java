import java.lang.reflect.Constructor;
import java.lang.reflect.Field;
import java.lang.reflect.Method;
import java.lang.reflect.Modifier;
import java.util.HashSet;
import java.util.Map;
import java.util.Set;
import java.util.TreeMap;
import java.util.TreeSet;

/** The document's face: every constant, constructor and method of it, and no other member that can be seen. */
public final class FaceTest extends Ops {
    public static void main(String[] args) throws IllegalAccessException {
        Class<?> face = SeriesParallelRace.class;
        Check.due("public and final", Modifier.PUBLIC | Modifier.FINAL, face.getModifiers());
        Check.due("nested classes", 0, face.getDeclaredClasses().length);
        Check.due("interfaces", 0, face.getInterfaces().length);
        constants(face);
        methods(face);
        Constructor<?>[] constructors = face.getDeclaredConstructors();
        Check.due("constructors", 1, constructors.length);
        same("constructor", "public int int int int", described(constructors[0].getModifiers(), "",
            constructors[0].getParameterTypes()));
        Check.end();
    }

    private static void constants(Class<?> face) throws IllegalAccessException {
        Map<String, Integer> want = new TreeMap<>(Map.of("OK", 0, "REFUSED", -1, "MAX_STEPS", 128, "MAX_SLICE", 32));
        String[] statuses = {"EDIT", "RUNNING", "DONE", "OUT_OF_STEPS", "TOO_DEEP", "TOO_MANY"};
        String[] opcodes = {"RET", "SYNC", "SPAWN", "CALL", "LOAD", "STORE", "SUM", "SET", "ADD", "MOVE", "JZ", "JMP"};
        for (int i = 0; i < statuses.length; i++) {
            want.put(statuses[i], i);
        }
        for (int i = 0; i < opcodes.length; i++) {
            want.put(opcodes[i], i);
        }
        Map<String, Integer> got = new TreeMap<>();
        for (Field field : face.getDeclaredFields()) {
            int modifiers = field.getModifiers();
            if (!Modifier.isPrivate(modifiers)) {
                same(field.getName(), "public static final int", Modifier.toString(modifiers) + " " + field.getType());
                got.put(field.getName(), field.getInt(null));
            } else if (Modifier.isStatic(modifiers)) {
                same(field.getName(), "private static final int", Modifier.toString(modifiers) + " " + field.getType());
            }
        }
        same("constants", want.toString(), got.toString());
    }

    private static void methods(Class<?> face) {
        Set<String> want = new TreeSet<>(Set.of("emit: public int int int", "poke: public int int int",
            "start: public int", "run: public int int", "reset: public void", "status: public int",
            "code: public int int int", "steps: public int", "step: public int int int", "racing: public int int",
            "concurrent: public int int", "cell: public int int", "races: public int int",
            "firstRace: public int int", "depth: public int", "frame: public int int int"));
        Set<String> got = new TreeSet<>();
        Set<String> seen = new HashSet<>();
        Set<String> hidden = new HashSet<>();
        for (Method method : face.getDeclaredMethods()) {
            if (Modifier.isPrivate(method.getModifiers())) {
                hidden.add(method.getName());
            } else {
                seen.add(method.getName());
                got.add(method.getName() + ": " + described(method.getModifiers(), " " + method.getReturnType(),
                    method.getParameterTypes()));
            }
        }
        same("methods", want.toString(), got.toString());
        hidden.retainAll(seen);
        same("private methods with a public one's name", "[]", hidden.toString());
    }

    private static String described(int modifiers, String answer, Class<?>[] parameters) {
        StringBuilder text = new StringBuilder(Modifier.toString(modifiers)).append(answer);
        for (Class<?> parameter : parameters) {
            text.append(' ').append(parameter);
        }
        return text.toString();
    }

    private static void same(String what, String want, String got) {
        Check.due(what + " '" + got + "' is '" + want + "'", 1, got.equals(want) ? 1 : 0);
    }
}
