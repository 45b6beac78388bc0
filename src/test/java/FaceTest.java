import java.lang.reflect.Executable;
import java.lang.reflect.Field;
import java.lang.reflect.Method;
import java.lang.reflect.Modifier;
import java.util.Arrays;
import java.util.HashSet;
import java.util.Set;
import java.util.TreeSet;

/** The public face, member by member, as it stands in the compiled class. */
public final class FaceTest {
    private static final Due due = new Due("FaceTest");
    private static final String[] METHODS = {
        "int lay(int,long)", "long number(int)", "int sticks(int,int)", "int about(int,int)",
        "int group(int,int)", "int strip(int)", "int wipe()", "int readings()", "long reading(int)",
        "int add(int,int)", "int times(int,int,int)", "int part(int,int,int)", "int root(int,int,int)",
        "int boards()", "long board(int,int)", "int note(int,int)", "int copy()", "int write(int,int,long)",
        "int gap(int,int)", "long read(int,int)", "int right(int)", "int blame()", "int mend(int)", "int fill()",
        "int unknowns(int,int)", "int set(int,int,int)", "int kind()", "int turns()", "long cleared(int,int)",
        "long answer(int,int)", "int free(int)", "int count(int,int)", "int drop()", "long joined(int)",
        "int clash()", "int seek(int,int,int)", "long problem(int,int,int,int,int,int)", "int told(int)"
    };
    private static final String[] CONSTANTS = {
        "int NONE", "int UNKNOWN", "int OUTSIDE", "int STATE", "int FULL", "int NO", "long LOST", "long BEYOND"
    };

    public static void main(String[] args) {
        face();
        classesInside();
        constants();
        due.end();
    }

    private static void isTrue(String what, boolean holds) {
        due.is(what, holds ? 1 : 0, 1);
    }

    private static String parameters(Executable of) {
        StringBuilder text = new StringBuilder("(");
        for (Class<?> type : of.getParameterTypes()) text.append(text.length() > 1 ? "," : "").append(type.getName());
        return text.append(")").toString();
    }

    /** All that is not private must be of the face. */
    private static void face() {
        Set<String> methods = new TreeSet<>();
        for (Method method : RodBoard.class.getDeclaredMethods()) {
            if (Modifier.isPrivate(method.getModifiers()) || method.isSynthetic()) continue;
            isTrue(method + " is public and not static", method.getModifiers() == Modifier.PUBLIC);
            methods.add(method.getReturnType() + " " + method.getName() + parameters(method));
        }
        isTrue("methods " + methods, methods.equals(new TreeSet<>(Arrays.asList(METHODS))));
        Set<String> constants = new TreeSet<>();
        for (Field field : RodBoard.class.getDeclaredFields()) {
            if (Modifier.isPrivate(field.getModifiers())) continue;
            isTrue(field + " is a constant", field.getModifiers() == (Modifier.PUBLIC | Modifier.STATIC | Modifier.FINAL));
            constants.add(field.getType() + " " + field.getName());
        }
        isTrue("constants " + constants, constants.equals(new TreeSet<>(Arrays.asList(CONSTANTS))));
        due.is("constructors", RodBoard.class.getDeclaredConstructors().length, 1);
        due.is("parameters of it", RodBoard.class.getConstructors()[0].getParameterCount(), 0);
        isTrue("class", RodBoard.class.getModifiers() == (Modifier.PUBLIC | Modifier.FINAL));
    }

    private static void classesInside() {
        Set<String> names = new HashSet<>();
        for (String method : METHODS) names.add(method.replaceAll(".* |\\(.*", ""));
        Class<?>[] inside = RodBoard.class.getDeclaredClasses();
        isTrue("some twelve classes", inside.length <= 11);
        for (Class<?> one : inside) {
            isTrue(one + " is private and static", Modifier.isPrivate(one.getModifiers()) && Modifier.isStatic(one.getModifiers()));
            isTrue(one + " has few fields", one.getDeclaredFields().length <= 20);
            for (Method method : one.getDeclaredMethods()) {
                isTrue(method + " bears no name of the face", !names.contains(method.getName()));
            }
        }
    }

    private static void constants() {
        due.is("NONE", RodBoard.NONE, -6);
        due.is("UNKNOWN", RodBoard.UNKNOWN, -1);
        due.is("OUTSIDE", RodBoard.OUTSIDE, -2);
        due.is("STATE", RodBoard.STATE, -3);
        due.is("FULL", RodBoard.FULL, -4);
        due.is("NO", RodBoard.NO, -5);
        due.is("LOST", RodBoard.LOST, -1000000000000000L);
        due.is("BEYOND", RodBoard.BEYOND, 1000000000000L);
    }
}
