import java.lang.reflect.Constructor;
import java.lang.reflect.Field;
import java.lang.reflect.Method;
import java.lang.reflect.Modifier;
import java.util.ArrayList;
import java.util.Collections;
import java.util.List;

/** The public face: the constants, constructor and methods of the document, and nothing else that can be seen. */
public final class FaceTest {
    private static final Checks CHECKS = new Checks();

    public static void main(String[] args) {
        constants();
        members();
        CHECKS.finish();
    }

    private static void constants() {
        CHECKS.due("OK", ControllableTime.OK, 0);
        CHECKS.due("NONE", ControllableTime.NONE, 100);
        CHECKS.due("BAD_STATE", ControllableTime.BAD_STATE, 101);
        CHECKS.due("BAD_EVENT", ControllableTime.BAD_EVENT, 102);
        CHECKS.due("BAD_BOUNDS", ControllableTime.BAD_BOUNDS, 103);
        CHECKS.due("CONFLICT", ControllableTime.CONFLICT, 104);
        CHECKS.due("REJECTED", ControllableTime.REJECTED, 105);
        CHECKS.due("LOAD", ControllableTime.LOAD, 0);
        CHECKS.due("RUN", ControllableTime.RUN, 1);
        CHECKS.due("DONE", ControllableTime.DONE, 2);
        CHECKS.due("EAGER", ControllableTime.EAGER, 0);
        CHECKS.due("LAZY", ControllableTime.LAZY, 1);
    }

    private static void members() {
        Class<?> type = ControllableTime.class;
        List<String> seen = new ArrayList<>();
        for (Field field : type.getDeclaredFields()) {
            if (!Modifier.isPrivate(field.getModifiers())) {
                seen.add(field.toString());
            }
        }
        for (Constructor<?> constructor : type.getDeclaredConstructors()) {
            if (!Modifier.isPrivate(constructor.getModifiers())) {
                seen.add(constructor.toString());
            }
        }
        for (Method method : type.getDeclaredMethods()) {
            if (!Modifier.isPrivate(method.getModifiers())) {
                seen.add(method.toString());
            }
        }
        List<String> due = documented();
        Collections.sort(seen);
        Collections.sort(due);
        CHECKS.due("visible members " + seen + " like " + due, seen.equals(due) ? 1 : 0, 1);
        CHECKS.due("modifiers", type.getModifiers(), Modifier.PUBLIC | Modifier.FINAL);
        CHECKS.due("nested classes", type.getDeclaredClasses().length, 0);
    }

    private static List<String> documented() {
        List<String> due = new ArrayList<>();
        String[] constants = {"OK", "NONE", "BAD_STATE", "BAD_EVENT", "BAD_BOUNDS", "CONFLICT", "REJECTED",
            "LOAD", "RUN", "DONE", "EAGER", "LAZY"};
        for (String name : constants) {
            due.add("public static final int ControllableTime." + name);
        }
        due.add("public ControllableTime(int,int)");
        String[] methods = {"addRequirement(int,int,int,int)", "addContingent(int,int,int,int)",
            "dropRequirement(int,int)", "dropContingent(int)", "setPolicy(int,int)", "verdict()", "start()",
            "reveal(int)", "step()", "restart()", "state()", "now()", "timeOf(int)", "limit(int,int)",
            "linkOf(int,int)", "policyOf(int)"};
        for (String method : methods) {
            due.add("public int ControllableTime." + method);
        }
        return due;
    }
}
