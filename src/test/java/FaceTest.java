import java.lang.reflect.Field;
import java.lang.reflect.Method;
import java.lang.reflect.Modifier;
import java.util.Set;
import java.util.TreeSet;

/** The public face of the document, and what LANGUAGE.md says of members and their types. */
public final class FaceTest {
    private static final Set<String> METHODS = Set.of(
        "int addRule(int,int,int,int)", "int ruleCount()", "int ruleSymbol(int,int)", "boolean isLeftCorner(int,int)",
        "int addToken(int)", "void clearInput()", "int inputLength()", "int inputToken(int)", "int parse()",
        "int count()", "int selectTree(int)", "int selectedRank()", "int nodeRule(int)", "int nodeStart(int)",
        "int nodeEnd(int)", "int nodeDepth(int)");

    public static void main(String[] args) throws Exception {
        constants();
        methods();
        fields();
        Class<LeftCorner> type = LeftCorner.class;
        Check.due("public final", type.getModifiers() & (Modifier.PUBLIC | Modifier.FINAL), Modifier.PUBLIC | Modifier.FINAL);
        Check.due("package", type.getPackageName(), "");
        Check.due("constructors", type.getDeclaredConstructors().length, 1);
        Check.due("public constructor", Modifier.isPublic(type.getConstructor(int.class, int.class).getModifiers()), true);
        Check.due("nested classes", type.getDeclaredClasses().length, 0);
        Check.finish();
    }

    private static void constants() throws Exception {
        constant("NONE", -1);
        constant("ERR_SYMBOL", -2);
        constant("ERR_FULL", -3);
        constant("ERR_CYCLE", -4);
        constant("ERR_STATE", -5);
        constant("ERR_RANGE", -6);
        constant("CAP", 1000000);
        constant("TERMINAL_BASE", 8);
        constant("MAX_RULES", 24);
        constant("MAX_INPUT", 12);
        Check.due("public fields", LeftCorner.class.getFields().length, 10);
    }

    private static void constant(String name, int want) throws Exception {
        Field field = LeftCorner.class.getField(name);
        int all = Modifier.PUBLIC | Modifier.STATIC | Modifier.FINAL;
        Check.due(name + " is public static final", field.getModifiers() & all, all);
        Check.due(name, field.getInt(null), want);
    }

    private static void methods() {
        Set<String> open = new TreeSet<>();
        Set<String> openNames = new TreeSet<>();
        Set<String> hiddenNames = new TreeSet<>();
        for (Method method : LeftCorner.class.getDeclaredMethods()) {
            if (Modifier.isPrivate(method.getModifiers())) {
                hiddenNames.add(method.getName());
            } else {
                open.add(described(method));
                openNames.add(method.getName());
                Check.due(method.getName() + " is public", Modifier.isPublic(method.getModifiers()), true);
            }
            Check.due(method.getName() + " has at most seven parameters", method.getParameterCount() <= 7, true);
        }
        Check.due("public methods", open, new TreeSet<>(METHODS));
        hiddenNames.retainAll(openNames);
        Check.due("private methods with a public name", hiddenNames, Set.of());
    }

    private static String described(Method method) {
        StringBuilder text = new StringBuilder(method.getReturnType() + " " + method.getName() + "(");
        String comma = "";
        for (Class<?> type : method.getParameterTypes()) {
            text.append(comma).append(type);
            comma = ",";
        }
        return text + ")";
    }

    private static void fields() {
        int state = 0;
        for (Field field : LeftCorner.class.getDeclaredFields()) {
            int modifiers = field.getModifiers();
            Class<?> type = field.getType();
            Class<?> element = type.isArray() ? type.getComponentType() : type;
            Check.due(field.getName() + " has a plain type",
                element.isPrimitive() && element != float.class && element != double.class, true);
            if (Modifier.isStatic(modifiers)) {
                Check.due(field.getName() + " is a constant",
                    Modifier.isFinal(modifiers) && (type == int.class || type == long.class), true);
            } else {
                Check.due(field.getName() + " is private", Modifier.isPrivate(modifiers), true);
                state++;
            }
        }
        Check.due("at most forty fields", state <= 40, true);
    }
}
