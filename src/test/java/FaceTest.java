import java.lang.reflect.Constructor;
import java.lang.reflect.Field;
import java.lang.reflect.Method;
import java.lang.reflect.Modifier;
import java.util.Arrays;
import java.util.Map;
import java.util.Set;
import java.util.TreeMap;
import java.util.TreeSet;

/** The public face: the document's constants, constructor and methods, and nothing else that can be seen. */
public final class FaceTest {
    private static final Map<String, Integer> CONSTANTS = new TreeMap<>(Map.ofEntries(
            Map.entry("MIN_NONTERMINALS", 1), Map.entry("MAX_NONTERMINALS", 6),
            Map.entry("MIN_TERMINALS", 1), Map.entry("MAX_TERMINALS", 4),
            Map.entry("MAX_RULES", 8), Map.entry("MAX_RHS", 4),
            Map.entry("MAX_SYMBOLS", 12), Map.entry("MAX_INPUT", 12),
            Map.entry("OK", 0), Map.entry("ERR_PHASE", -1), Map.entry("ERR_RANGE", -2),
            Map.entry("ERR_FULL", -3), Map.entry("ERR_NO_RULE", -4),
            Map.entry("KIND_PLAIN", 0), Map.entry("KIND_RIGHT", 1),
            Map.entry("KIND_LEFT", 2), Map.entry("KIND_SELF", 3)));

    private static final Set<String> METHODS = new TreeSet<>(Set.of(
            "int rule[int]", "int terminal[int]", "int nonterminal[int]", "int ruleCount[]", "int build[]",
            "int setOf[int]", "int setKind[int]", "boolean selfEmbedding[]", "int transformedRuleCount[]",
            "int feed[int]", "int clearInput[]", "int inputLength[]", "boolean approxAccepts[]",
            "boolean grammarAccepts[]", "boolean approxLive[]", "int nextMask[]"));

    public static void main(String[] args) throws IllegalAccessException {
        Check check = new Check("FaceTest");
        int modifiers = RegApprox.class.getModifiers();
        check.due("the class is public and final", modifiers, Modifier.PUBLIC | Modifier.FINAL);
        check.due("constants " + constants(), constants().equals(CONSTANTS), true);
        check.due("methods " + methods(), methods().equals(METHODS), true);
        check.due("constructors " + constructors(), constructors().equals(Set.of("[int, int]")), true);
        check.end();
    }

    private static Map<String, Integer> constants() throws IllegalAccessException {
        Map<String, Integer> seen = new TreeMap<>();
        for (Field field : RegApprox.class.getDeclaredFields()) {
            if (!Modifier.isPrivate(field.getModifiers())) {
                boolean constant = field.getModifiers() == (Modifier.PUBLIC | Modifier.STATIC | Modifier.FINAL);
                seen.put(field.getName(), constant ? field.getInt(null) : Integer.MIN_VALUE);
            }
        }
        return seen;
    }

    private static Set<String> methods() {
        Set<String> seen = new TreeSet<>();
        for (Method method : RegApprox.class.getDeclaredMethods()) {
            if (!Modifier.isPrivate(method.getModifiers())) {
                String extra = method.getModifiers() == Modifier.PUBLIC ? "" : Modifier.toString(method.getModifiers());
                seen.add(extra + method.getReturnType() + " " + method.getName()
                        + Arrays.toString(method.getParameterTypes()));
            }
        }
        return seen;
    }

    private static Set<String> constructors() {
        Set<String> seen = new TreeSet<>();
        for (Constructor<?> constructor : RegApprox.class.getDeclaredConstructors()) {
            boolean open = constructor.getModifiers() == Modifier.PUBLIC;
            seen.add((open ? "" : "not public ") + Arrays.toString(constructor.getParameterTypes()));
        }
        return seen;
    }
}
