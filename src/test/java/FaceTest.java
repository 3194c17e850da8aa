import java.lang.reflect.Constructor;
import java.lang.reflect.Field;
import java.lang.reflect.Method;
import java.lang.reflect.Modifier;
import java.util.Set;
import java.util.TreeSet;

/** The public face: its constants, its constructor, its methods, and nothing else that is not private. */
final class FaceTest {
    private static final Check CHECK = new Check("FaceTest");

    public static void main(String[] args) {
        constants();
        members();
        methods();
        classesInside();
        CHECK.end();
    }

    private static void constants() {
        CHECK.due("UNKNOWN", LoopBoard.UNKNOWN, -1);
        CHECK.due("OUTSIDE", LoopBoard.OUTSIDE, -2);
        CHECK.due("STATE", LoopBoard.STATE, -3);
        CHECK.due("FULL", LoopBoard.FULL, -4);
        CHECK.due("NO", LoopBoard.NO, -5);
        CHECK.due("NONE", LoopBoard.NONE, -6);
        CHECK.due("SPENT", LoopBoard.SPENT, -7);
    }

    private static void members() {
        int kind = LoopBoard.class.getModifiers();
        CHECK.holds("public", Modifier.isPublic(kind));
        CHECK.holds("final", Modifier.isFinal(kind));
        int constants = 0;
        for (Field field : LoopBoard.class.getDeclaredFields()) {
            int is = field.getModifiers();
            constants += Modifier.isPublic(is) ? 1 : 0;
            CHECK.holds(field.getName() + " is public or private", Modifier.isPublic(is) || Modifier.isPrivate(is));
            CHECK.holds(field.getName() + " is no state of all objects", !Modifier.isStatic(is) || Modifier.isFinal(is));
        }
        CHECK.due("public constants", constants, 7);
        Constructor<?>[] constructors = LoopBoard.class.getDeclaredConstructors();
        CHECK.due("constructors", constructors.length, 1);
        CHECK.holds("of no parameters", constructors[0].getParameterCount() == 0);
        CHECK.holds("public", Modifier.isPublic(constructors[0].getModifiers()));
    }

    private static void methods() {
        String[] due = {"int input(int,int)", "int act(int,int,int,int,int)", "int first(int)", "int clear()", "int sound()",
            "long plain(int,int)", "int about(int,int)", "int board(int,int)", "int breaks(int,boolean)",
            "int multiplies(int,boolean)", "int way(int,int)", "int plan(int)", "int lay(int,int,int)", "int lacks()",
            "int laid(int,int)", "int kept(int)", "int step(int)", "long stepped(int,int)", "int works(int,int)",
            "int bound(int)", "int find()", "int tries()", "int told(int)"};
        Set<String> open = new TreeSet<>();
        Set<String> names = new TreeSet<>();
        for (Method method : LoopBoard.class.getDeclaredMethods()) {
            if (!Modifier.isPrivate(method.getModifiers())) {
                open.add(signature(method));
                names.add(method.getName());
            }
        }
        CHECK.due("methods that are not private", open.size(), due.length);
        for (String one : due) {
            CHECK.holds(one, open.contains(one));
        }
        for (Method method : LoopBoard.class.getDeclaredMethods()) {
            if (Modifier.isPrivate(method.getModifiers())) {
                CHECK.holds(method.getName() + " is no public name", !names.contains(method.getName()));
            }
        }
    }

    private static String signature(Method method) {
        StringBuilder text = new StringBuilder();
        text.append(method.getReturnType().getName()).append(' ').append(method.getName()).append('(');
        for (int i = 0; i < method.getParameterCount(); i++) {
            text.append(i == 0 ? "" : ",").append(method.getParameterTypes()[i].getName());
        }
        return text.append(')').toString();
    }

    private static void classesInside() {
        for (Class<?> inside : LoopBoard.class.getDeclaredClasses()) {
            CHECK.holds(inside.getName() + " is static", Modifier.isStatic(inside.getModifiers()));
            CHECK.holds(inside.getName() + " is not public", !Modifier.isPublic(inside.getModifiers()));
        }
    }
}
