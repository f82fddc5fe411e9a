import java.lang.reflect.Constructor;
import java.lang.reflect.Field;
import java.lang.reflect.Method;
import java.lang.reflect.Modifier;
import java.util.TreeSet;

/** The class shows the document's face and nothing else, and its constants have their values. */
public final class FaceTest {
    private static final String[] METHODS = {
        "appendCharacter(int)", "clearText()", "loadGrammar()", "appendToken(int)", "insertToken(int,int)",
        "removeToken(int)", "clearTokens()", "setInsertionCost(int,int)", "setDeletionCost(int,int)",
        "setReplacementCost(int,int)", "undo()", "stateCount()", "isAccepting(int)", "ruleCount()",
        "tokenCount()", "tokenAt(int)", "errorPosition()", "stateAfter(int)", "depthAfter(int)",
        "expectedKinds()", "repairCost()", "repairCount()", "secondCost()", "repairLength(int)",
        "repairOperation(int,int)", "repairKind(int,int)", "applyRepair(int)", "localCost(int)",
        "localOperation(int,int)", "localKind(int,int)", "sweepCost(int)", "undoCount()"
    };
    private static final String[] CONSTANTS = {
        "INVALID_ARGUMENT=-1", "INVALID_STATE=-2", "LIMIT_REACHED=-3", "NONE=-9",
        "KEEP=0", "REPLACE=1", "DELETE=2", "INSERT=3"
    };

    public static void main(String[] args) throws IllegalAccessException {
        Check check = new Check("FaceTest");
        int type = SyntaxRepair.class.getModifiers();
        check.due("public final", Modifier.isPublic(type) && Modifier.isFinal(type) ? 1 : 0, 1);
        check.dueText("methods", methods().toString(), new TreeSet<>(java.util.List.of(METHODS)).toString());
        check.dueText("constants", constants().toString(), new TreeSet<>(java.util.List.of(CONSTANTS)).toString());
        Constructor<?>[] constructors = SyntaxRepair.class.getDeclaredConstructors();
        check.due("constructors", constructors.length, 1);
        check.due("public constructors without parameters", SyntaxRepair.class.getConstructors().length == 1
            && constructors[0].getParameterCount() == 0 ? 1 : 0, 1);
        check.end();
    }

    private static TreeSet<String> methods() {
        TreeSet<String> found = new TreeSet<>();
        for (Method method : SyntaxRepair.class.getDeclaredMethods()) {
            if (method.isSynthetic() || Modifier.isPrivate(method.getModifiers())) {
                continue;
            }
            StringBuilder text = new StringBuilder(method.getName()).append('(');
            for (Class<?> parameter : method.getParameterTypes()) {
                text.append(text.charAt(text.length() - 1) == '(' ? "" : ",").append(parameter.getName());
            }
            text.append(')');
            boolean right = Modifier.isPublic(method.getModifiers()) && !Modifier.isStatic(method.getModifiers())
                && method.getReturnType() == int.class;
            found.add(right ? text.toString() : "wrong: " + method);
        }
        return found;
    }

    private static TreeSet<String> constants() throws IllegalAccessException {
        TreeSet<String> found = new TreeSet<>();
        for (Field field : SyntaxRepair.class.getDeclaredFields()) {
            int flags = field.getModifiers();
            if (field.isSynthetic() || Modifier.isPrivate(flags)) {
                continue;
            }
            boolean right = Modifier.isPublic(flags) && Modifier.isStatic(flags) && Modifier.isFinal(flags)
                && field.getType() == int.class;
            found.add(right ? field.getName() + "=" + field.getInt(null) : "wrong: " + field);
        }
        return found;
    }
}
