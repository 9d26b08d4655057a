import java.lang.reflect.Constructor;
import java.lang.reflect.Field;
import java.lang.reflect.Member;
import java.lang.reflect.Method;
import java.lang.reflect.Modifier;
import java.util.ArrayList;
import java.util.Arrays;
import java.util.Collections;
import java.util.List;
import java.util.stream.Collectors;

/** The members that others may use are those of the document's face, and no more. */
public final class FaceTest {
    private static final List<String> FACE = List.of(
            "public static final int NONE = -1",
            "public (int)",
            "public int field(int, int, long) throws I S A U",
            "public int form(int, int, int, long, long) throws I S A U",
            "public int forget(int, int) throws I S A",
            "public int put(int, int) throws I S A U",
            "public int find(int, int, int) throws I S A",
            "public boolean stop(int) throws I",
            "public int swap(int) throws I S A U",
            "public long fold(int, int, int) throws I S A",
            "public int order(int) throws I S A U",
            "public int collect(int) throws I",
            "public int open(int) throws I S U",
            "public int commit(int) throws I S",
            "public int abandon(int) throws I S",
            "public boolean renew(int, int, int) throws I S A",
            "public int tick(int) throws A",
            "public int now()",
            "public int session(int, int) throws I",
            "public long found(int, int) throws I",
            "public int seen(int, int) throws I",
            "public long about(int, int)");

    public static void main(String[] args) throws IllegalAccessException {
        int wrong = 0;
        List<String> got = face();
        for (String due : FACE) {
            if (!got.contains(due)) {
                wrong++;
                System.out.println("missing: " + due);
            }
        }
        for (String member : got) {
            if (!FACE.contains(member)) {
                wrong++;
                System.out.println("not in the face: " + member);
            }
        }
        int modifiers = JobBoard.class.getModifiers();
        if (!Modifier.isPublic(modifiers) || !Modifier.isFinal(modifiers)) {
            wrong++;
            System.out.println("the class is not public and final");
        }
        wrong += namesUsedTwice();
        System.out.println(wrong == 0 ? "the face is as due" : wrong + " faults in the face");
        if (wrong != 0) {
            System.exit(1);
        }
    }

    private static List<String> face() throws IllegalAccessException {
        List<String> members = new ArrayList<>();
        for (Field f : JobBoard.class.getDeclaredFields()) {
            if (isVisible(f)) {
                members.add(Modifier.toString(f.getModifiers()) + " " + f.getType() + " " + f.getName() + " = " + f.get(null));
            }
        }
        for (Constructor<?> c : JobBoard.class.getDeclaredConstructors()) {
            if (isVisible(c)) {
                members.add(Modifier.toString(c.getModifiers()) + " " + types(c.getParameterTypes()) + thrown(c.getExceptionTypes()));
            }
        }
        for (Method m : JobBoard.class.getDeclaredMethods()) {
            if (isVisible(m)) {
                members.add(Modifier.toString(m.getModifiers()) + " " + m.getReturnType() + " " + m.getName()
                        + types(m.getParameterTypes()) + thrown(m.getExceptionTypes()));
            }
        }
        Collections.sort(members);
        return members;
    }

    private static boolean isVisible(Member m) {
        return !Modifier.isPrivate(m.getModifiers()) && !m.isSynthetic();
    }

    private static String types(Class<?>[] types) {
        return Arrays.stream(types).map(Class::getName).collect(Collectors.joining(", ", "(", ")"));
    }

    /** I, S, A and U stand for the document's four exceptions. */
    private static String thrown(Class<?>[] types) {
        if (types.length == 0) {
            return "";
        }
        return " throws " + Arrays.stream(types).map(FaceTest::letter).collect(Collectors.joining(" "));
    }

    private static String letter(Class<?> type) {
        if (type == IndexOutOfBoundsException.class) {
            return "I";
        }
        if (type == IllegalStateException.class) {
            return "S";
        }
        if (type == IllegalArgumentException.class) {
            return "A";
        }
        return type == UnsupportedOperationException.class ? "U" : type.getName();
    }

    private static int namesUsedTwice() {
        int wrong = 0;
        Method[] methods = JobBoard.class.getDeclaredMethods();
        for (Method m : methods) {
            for (Method other : methods) {
                if (Modifier.isPublic(m.getModifiers()) && !m.equals(other) && m.getName().equals(other.getName())) {
                    wrong++;
                    System.out.println("a second method of the name " + m.getName());
                }
            }
        }
        return wrong;
    }
}
