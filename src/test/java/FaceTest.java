import java.lang.reflect.Constructor;
import java.lang.reflect.Field;
import java.lang.reflect.Method;
import java.lang.reflect.Modifier;
import java.util.Set;
import java.util.TreeSet;

/** The class shows the constants, the constructor and the methods of the document, and no more. */
public final class FaceTest {
    private static final Set<String> FACE = Set.of(
        "public static final int PriorityLocks.OK",
        "public static final int PriorityLocks.WAITS",
        "public static final int PriorityLocks.BAD",
        "public static final int PriorityLocks.RING",
        "public static final int PriorityLocks.NONE",
        "public PriorityLocks()",
        "public int PriorityLocks.take(int,int)",
        "public int PriorityLocks.give(int,int)",
        "public boolean PriorityLocks.giveUp(int)",
        "public boolean PriorityLocks.setBase(int,int)",
        "public int PriorityLocks.urgency(int)",
        "public int PriorityLocks.base(int)",
        "public int PriorityLocks.holder(int)",
        "public int PriorityLocks.waitsFor(int)",
        "public int PriorityLocks.waiting(int)",
        "public int PriorityLocks.nextFor(int)",
        "public int PriorityLocks.held(int)",
        "public int PriorityLocks.running()",
        "public int PriorityLocks.waitingOn(int)",
        "public int PriorityLocks.lifted()");

    private static Set<String> shown() {
        Set<String> shown = new TreeSet<>();
        for (Field f : PriorityLocks.class.getDeclaredFields()) {
            if (!Modifier.isPrivate(f.getModifiers())) {
                shown.add(f.toString());
            }
        }
        for (Constructor<?> c : PriorityLocks.class.getDeclaredConstructors()) {
            if (!Modifier.isPrivate(c.getModifiers())) {
                shown.add(c.toString());
            }
        }
        for (Method m : PriorityLocks.class.getDeclaredMethods()) {
            if (!Modifier.isPrivate(m.getModifiers())) {
                shown.add(m.toString());
            }
        }
        return shown;
    }

    public static void main(String[] args) {
        int wrong = 0;
        Set<String> shown = shown();
        for (String member : FACE) {
            if (!shown.contains(member)) {
                wrong++;
                System.out.println("missing: " + member);
            }
        }
        for (String member : shown) {
            if (!FACE.contains(member)) {
                wrong++;
                System.out.println("not in the document: " + member);
            }
        }
        int modifiers = PriorityLocks.class.getModifiers();
        if (!Modifier.isPublic(modifiers) || !Modifier.isFinal(modifiers)) {
            wrong++;
            System.out.println("the class is not public and final");
        }
        System.out.println(wrong == 0 ? "the face is as due" : wrong + " members are not as due");
        if (wrong != 0) {
            System.exit(1);
        }
    }
}
