import java.lang.reflect.Constructor;
import java.lang.reflect.Field;
import java.lang.reflect.Method;
import java.lang.reflect.Modifier;
import java.util.Set;
import java.util.TreeSet;

/** The public face of the document: every member of it, and no other that is not private. */
public final class FaceTest {
    private static final String[] CONSTANTS = {
        "STRICT = 0", "DEFEASIBLE = 1", "DEFEATER = 2",
        "PLUS_DEFINITE = 0", "MINUS_DEFINITE = 1", "PLUS_DEFEASIBLE = 2", "MINUS_DEFEASIBLE = 3",
        "NONE = -1", "NOT_COMPUTED = -2", "BY_FACT = -3",
        "MAX_ATOMS = 32", "MAX_RULES = 32", "MAX_BODY = 4"
    };
    private static final String[] METHODS = {
        "public void reset()", "public boolean addFact(int)", "public boolean isFact(int)",
        "public int newRule(int,int)", "public boolean addBody(int,int)", "public boolean addSuperior(int,int)",
        "public boolean isSuperior(int,int)", "public int ruleCount()", "public int ruleKind(int)",
        "public int ruleHead(int)", "public int ruleBody(int,int)", "public int compute()",
        "public boolean hasTag(int,int)", "public int countTag(int)", "public int winner(int)"
    };

    public static void main(String[] args) throws IllegalAccessException {
        Checks checks = new Checks();
        Class<?> type = DefeasibleLogic.class;
        checks.due("public final class", type.getModifiers(), Modifier.PUBLIC | Modifier.FINAL);
        checks.due("no superclass", type.getSuperclass() == Object.class, true);
        checks.due("interfaces", type.getInterfaces().length, 0);
        checks.due("nested classes", type.getDeclaredClasses().length, 0);
        compare(checks, "constants", constants(type), Set.of(CONSTANTS));
        compare(checks, "methods", methods(type), Set.of(METHODS));
        compare(checks, "constructors", constructors(type), Set.of("public DefeasibleLogic(int,int)"));
        checks.finish();
    }

    private static void compare(Checks checks, String what, Set<String> got, Set<String> want) {
        boolean same = got.equals(want);
        if (!same) {
            System.out.println(what + " are " + got + ", due are " + new TreeSet<>(want));
        }
        checks.due(what + " are those of the document", same, true);
    }

    private static Set<String> constants(Class<?> type) throws IllegalAccessException {
        Set<String> found = new TreeSet<>();
        int constant = Modifier.PUBLIC | Modifier.STATIC | Modifier.FINAL;
        for (Field field : type.getDeclaredFields()) {
            if (field.getModifiers() == constant && field.getType() == int.class) {
                found.add(field.getName() + " = " + field.getInt(null));
            } else if (!Modifier.isPrivate(field.getModifiers())) {
                found.add(field.toString());
            }
        }
        return found;
    }

    private static Set<String> methods(Class<?> type) {
        Set<String> found = new TreeSet<>();
        for (Method method : type.getDeclaredMethods()) {
            if (!Modifier.isPrivate(method.getModifiers())) {
                found.add(method.toString().replace("DefeasibleLogic.", ""));
            }
        }
        return found;
    }

    private static Set<String> constructors(Class<?> type) {
        Set<String> found = new TreeSet<>();
        for (Constructor<?> constructor : type.getDeclaredConstructors()) {
            found.add(constructor.toString());
        }
        return found;
    }
}
