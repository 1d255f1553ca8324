import java.lang.reflect.Constructor;
import java.lang.reflect.Executable;
import java.lang.reflect.Field;
import java.lang.reflect.Method;
import java.lang.reflect.Modifier;
import java.util.Arrays;
import java.util.List;
import java.util.TreeSet;

/** The class has the document's face, word for word, and nothing else that others can see. */
public final class FaceTest {
    private static final List<String> FACE = List.of(
            "public static final int NONE = -1",
            "public static final int WAITING = 0",
            "public static final int QUEUED = 1",
            "public static final int RUNNING = 2",
            "public static final int PASSED = 3",
            "public static final int FAILED = 4",
            "public static final int CANCELLED = 5",
            "public static final int SKIPPED = 6",
            "public static final int GOING = 7",
            "public static final int CANCELLING = 8",
            "public static final int GOOD = 9",
            "public static final int BAD = 10",
            "public PipelineRunner()",
            "public int addStage(int, int) IllegalArgumentException IllegalStateException",
            "public int need(int, int) IndexOutOfBoundsException IllegalStateException",
            "public int exclude(int, int, int) IndexOutOfBoundsException IllegalStateException",
            "public int setStage(int, int, int) IndexOutOfBoundsException IllegalArgumentException IllegalStateException",
            "public void setMarks(int, boolean, boolean, boolean) IndexOutOfBoundsException IllegalStateException",
            "public int stages()",
            "public int jobs(int) IndexOutOfBoundsException",
            "public boolean needs(int, int) IndexOutOfBoundsException",
            "public int push(int, int, int, int)"
                    + " IndexOutOfBoundsException IllegalArgumentException IllegalStateException",
            "public int cancel(int) IndexOutOfBoundsException IllegalStateException",
            "public int runs()",
            "public int state(int) IndexOutOfBoundsException",
            "public int jobState(int, int, int) IndexOutOfBoundsException",
            "public int attempts(int, int, int) IndexOutOfBoundsException",
            "public int restored(int, int, int) IndexOutOfBoundsException",
            "public boolean isGood(int, int) IndexOutOfBoundsException",
            "public int artifacts(int, int) IndexOutOfBoundsException",
            "public int queued()",
            "public int queuedRun(int) IndexOutOfBoundsException",
            "public int queuedStage(int) IndexOutOfBoundsException",
            "public int take(int) IndexOutOfBoundsException IllegalStateException",
            "public int finish(int, boolean) IndexOutOfBoundsException IllegalStateException",
            "public int lose(int) IndexOutOfBoundsException IllegalStateException",
            "public int workerRun(int) IndexOutOfBoundsException",
            "public int workerStage(int) IndexOutOfBoundsException",
            "public int entries()",
            "public int entryStage(int) IndexOutOfBoundsException",
            "public int entryInput(int, int) IndexOutOfBoundsException");

    public static void main(String[] args) throws Exception {
        TreeSet<String> seen = new TreeSet<>();
        Class<?> type = PipelineRunner.class;
        for (Field field : type.getDeclaredFields()) {
            if (!Modifier.isPrivate(field.getModifiers())) {
                seen.add(Modifier.toString(field.getModifiers()) + " " + field.getType() + " " + field.getName()
                        + " = " + field.getInt(null));
            }
        }
        for (Constructor<?> constructor : type.getDeclaredConstructors()) {
            addSeen(seen, constructor, "PipelineRunner");
        }
        for (Method method : type.getDeclaredMethods()) {
            addSeen(seen, method, method.getReturnType() + " " + method.getName());
        }
        TreeSet<String> due = new TreeSet<>(FACE);
        boolean isRight = seen.equals(due) && Modifier.toString(type.getModifiers()).equals("public final");
        isRight &= hasNestedClassesOnlyForItself(type);
        TreeSet<String> missing = new TreeSet<>(due);
        missing.removeAll(seen);
        seen.removeAll(due);
        System.out.println("missing " + missing + ", not due " + seen);
        System.exit(isRight ? 0 : 1);
    }

    private static boolean hasNestedClassesOnlyForItself(Class<?> type) {
        for (Class<?> nested : type.getDeclaredClasses()) {
            int modifiers = nested.getModifiers();
            if (!Modifier.isStatic(modifiers) || Modifier.isPublic(modifiers) || Modifier.isProtected(modifiers)) {
                System.out.println("a class inside that is not its own: " + nested);
                return false;
            }
        }
        return true;
    }

    private static void addSeen(TreeSet<String> seen, Executable member, String name) {
        if (Modifier.isPrivate(member.getModifiers()) || member.isSynthetic()) {
            return;
        }
        String text = Modifier.toString(member.getModifiers()) + " " + name
                + Arrays.toString(member.getParameterTypes()).replace('[', '(').replace(']', ')');
        for (Class<?> thrown : member.getExceptionTypes()) {
            text += " " + thrown.getSimpleName();
        }
        seen.add(text);
    }
}
