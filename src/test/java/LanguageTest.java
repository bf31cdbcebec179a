import java.lang.reflect.Constructor;
import java.lang.reflect.Field;
import java.lang.reflect.Method;
import java.lang.reflect.Modifier;
import java.util.Arrays;
import java.util.Set;
import java.util.TreeSet;

/** What of LANGUAGE.md, and of the document's public face, can be seen in the compiled class. */
public final class LanguageTest {
    private static final String[] METHODS = {"int declare(int, int, int)", "int feed(int, int, int, int)", "int defineRule()",
        "int conjecture()", "int induct(int)", "int simp()", "int useHyp(int)", "int useLemma(int, int)", "int generalize()",
        "boolean setVar(int, int, int)", "int getVar(int, int)", "int evaluate(int)", "int status(int)", "int goalCount()",
        "char textChar(int, int, int)", "int funcInfo(int)"};
    private static final String[] CONSTANTS = {"MAX_TEXT=48", "MAX_FUNCS=8", "MAX_FORMULAS=8", "MAX_GOALS=8", "STEP_LIMIT=128",
        "SORT_NAT=0", "SORT_LIST=1", "OK=0", "ERR_SYNTAX=-1", "ERR_FORM=-2", "ERR_DUP=-3", "ERR_FULL=-4", "ERR_STATE=-5",
        "ERR_ARG=-6", "ERR_LIMIT=-7", "ERR_NOMATCH=-8", "EQUAL=1", "DIFFERENT=2", "UNKNOWN=3", "ST_NONE=0", "ST_OPEN=1",
        "ST_ACTIVE=2", "ST_PROVED=3"};
    private static final Set<Class<?>> TYPES = Set.of(int.class, long.class, short.class, byte.class, char.class, boolean.class,
        int[].class, long[].class, short[].class, byte[].class, char[].class, boolean[].class);

    public static void main(String[] args) throws IllegalAccessException {
        Checks checks = new Checks();
        Class<?> type = InductionProver.class;
        checks.due("modifiers", Modifier.toString(type.getModifiers()), "public final");
        checks.due("superclass", type.getSuperclass().getName(), "java.lang.Object");
        checks.due("interfaces", type.getInterfaces().length, 0);
        checks.due("nested classes", type.getDeclaredClasses().length, 0);
        checks.due("package", type.getPackageName(), "");
        Constructor<?>[] constructors = type.getDeclaredConstructors();
        checks.due("constructors", constructors.length, 1);
        checks.due("constructor", constructors[0].toString(), "public InductionProver()");
        methods(checks, type);
        fields(checks, type);
        checks.end();
    }

    private static void methods(Checks checks, Class<?> type) {
        Set<String> open = new TreeSet<>();
        Set<String> openNames = new TreeSet<>();
        for (Method m : type.getDeclaredMethods()) {
            if (!Modifier.isPrivate(m.getModifiers())) {
                String parameters = Arrays.toString(m.getParameterTypes()).replace('[', '(').replace(']', ')');
                open.add(m.getReturnType() + " " + m.getName() + parameters);
                openNames.add(m.getName());
                checks.due("modifiers of " + m.getName(), Modifier.toString(m.getModifiers()), "public");
            }
        }
        checks.due("public methods", open.toString(), new TreeSet<>(Arrays.asList(METHODS)).toString());
        for (Method m : type.getDeclaredMethods()) {
            if (Modifier.isPrivate(m.getModifiers())) {
                checks.due("private method with the name of a public one: " + m.getName(), openNames.contains(m.getName()), false);
            }
            checks.due("at most seven parameters: " + m.getName(), m.getParameterCount() <= 7, true);
            checks.due("answer of " + m.getName(), m.getReturnType().isPrimitive(), true);
            for (Class<?> parameter : m.getParameterTypes()) {
                checks.due("parameter of " + m.getName(), TYPES.contains(parameter), true);
            }
        }
    }

    private static void fields(Checks checks, Class<?> type) throws IllegalAccessException {
        Set<String> constants = new TreeSet<>();
        int kept = 0;
        for (Field f : type.getDeclaredFields()) {
            checks.due("type of " + f.getName(), TYPES.contains(f.getType()), true);
            int modifiers = f.getModifiers();
            if (Modifier.isStatic(modifiers)) {
                checks.due("static is final: " + f.getName(), Modifier.isFinal(modifiers), true);
                checks.due("static is a number: " + f.getName(), f.getType() == int.class || f.getType() == long.class, true);
            } else {
                kept++;
                checks.due("field is private: " + f.getName(), Modifier.isPrivate(modifiers), true);
            }
            if (!Modifier.isPrivate(modifiers)) {
                checks.due("modifiers of " + f.getName(), Modifier.toString(modifiers), "public static final");
                constants.add(f.getName() + "=" + f.getInt(null));
            }
        }
        checks.due("public constants", constants.toString(), new TreeSet<>(Arrays.asList(CONSTANTS)).toString());
        checks.due("at most forty fields", kept <= 40, true);
    }
}
