import java.lang.reflect.Constructor;
import java.lang.reflect.Field;
import java.lang.reflect.Method;
import java.lang.reflect.Modifier;
import java.util.Set;
import java.util.TreeSet;

/** The public face of the document, and the rules 1, 2, 5 and 10 of LANGUAGE.md as far as the class itself shows them. */
public final class FaceTest {
    private static final Checks checks = new Checks();
    private static final String[] METHODS = {"cap()", "size()", "insert(int,int,int)", "remove(int)", "move(int,int,int)",
        "copy(int,int,int)", "reverse(int,int)", "setVoid(int,int,int)", "kindAt(int)", "amountAt(int)", "voidAt(int)",
        "run(int,int,int)", "repeat(int,int,int,int)", "rest(int,int,int)", "leastOpening(int,int,int)",
        "openings(int,int,int)", "liveCount(int,int)", "net(int,int)"};

    public static void main(String[] args) {
        checks.holds("The public face: constants", FaceTest::constantsAreAsDue);
        checks.holds("The public face: constructor and methods", FaceTest::publicMembersAreTheDocuments);
        checks.holds("rule 1: no other member is seen", FaceTest::everyOtherMemberIsPrivate);
        checks.holds("rules 2 and 5: fields", FaceTest::fieldsAreNumbersAndArrays);
        checks.holds("rules 2 and 10: parameters and answers", FaceTest::methodsTakeFewNumbers);
        checks.finish();
    }

    private static void constantsAreAsDue() {
        checks.due("ADD", LedgerScript.ADD, 0);
        checks.due("LIFT", LedgerScript.LIFT, 1);
        checks.due("TRIM", LedgerScript.TRIM, 2);
        checks.due("SET", LedgerScript.SET, 3);
    }

    private static void publicMembersAreTheDocuments() {
        Class<LedgerScript> face = LedgerScript.class;
        checks.dueText("the class", Modifier.toString(face.getModifiers()), "public final");
        checks.dueText("the superclass", face.getSuperclass().getName(), "java.lang.Object");
        checks.due("interfaces", face.getInterfaces().length, 0);
        checks.due("nested classes", face.getDeclaredClasses().length, 0);
        Set<String> found = new TreeSet<>();
        for (Constructor<?> constructor : face.getConstructors()) {
            found.add(constructor.toString());
        }
        for (Field field : face.getFields()) {
            found.add(field.toString());
        }
        for (Method method : face.getMethods()) {
            if (method.getDeclaringClass() == face) {
                found.add(method.toString());
            }
        }
        Set<String> want = new TreeSet<>();
        want.add("public LedgerScript(int,int)");
        for (String name : "ADD LIFT TRIM SET".split(" ")) {
            want.add("public static final int LedgerScript." + name);
        }
        // Types and not only numbers of parameters: a call by reflection would widen an int to a long unseen.
        for (String method : METHODS) {
            want.add("public int LedgerScript." + method);
        }
        checks.dueText("the public face", found.toString(), want.toString());
    }

    private static void everyOtherMemberIsPrivate() {
        Set<String> publicNames = new TreeSet<>();
        for (Method method : LedgerScript.class.getMethods()) {
            publicNames.add(method.getName());
        }
        for (Method method : LedgerScript.class.getDeclaredMethods()) {
            if (!Modifier.isPublic(method.getModifiers())) {
                checks.dueTrue(method + " is private", Modifier.isPrivate(method.getModifiers()));
                checks.dueTrue(method + " has a name of its own", !publicNames.contains(method.getName()));
            }
        }
        for (Constructor<?> constructor : LedgerScript.class.getDeclaredConstructors()) {
            checks.dueTrue(constructor + " is public", Modifier.isPublic(constructor.getModifiers()));
        }
        for (Field field : LedgerScript.class.getDeclaredFields()) {
            int modifiers = field.getModifiers();
            checks.dueTrue(field + " is public or private", Modifier.isPublic(modifiers) || Modifier.isPrivate(modifiers));
        }
    }

    private static void fieldsAreNumbersAndArrays() {
        for (Field field : LedgerScript.class.getDeclaredFields()) {
            if (Modifier.isStatic(field.getModifiers())) {
                checks.dueTrue(field + " is final", Modifier.isFinal(field.getModifiers()));
                checks.dueTrue(field + " is int or long", field.getType() == int.class || field.getType() == long.class);
            } else {
                checks.dueTrue(field + " is a number or an array of them", isAllowed(field.getType()));
            }
        }
    }

    private static void methodsTakeFewNumbers() {
        for (Method method : LedgerScript.class.getDeclaredMethods()) {
            checks.dueTrue(method + " takes seven at most", method.getParameterCount() <= 7);
            checks.dueTrue(method + " answers a number or nothing",
                method.getReturnType() == void.class || isPlain(method.getReturnType()));
            for (Class<?> type : method.getParameterTypes()) {
                checks.dueTrue(method + " takes numbers and arrays of them", isAllowed(type));
            }
        }
    }

    private static boolean isAllowed(Class<?> type) {
        return isPlain(type) || type.isArray() && isPlain(type.getComponentType());
    }

    private static boolean isPlain(Class<?> type) {
        return type.isPrimitive() && type != float.class && type != double.class && type != void.class;
    }
}
