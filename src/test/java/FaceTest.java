import java.lang.reflect.Constructor;
import java.lang.reflect.Field;
import java.lang.reflect.Member;
import java.lang.reflect.Method;
import java.lang.reflect.Modifier;
import java.util.Arrays;
import java.util.Set;
import java.util.TreeSet;

/** The class shows the members of "The public face", and no other one that isn't private. */
public final class FaceTest {
    private static final String[] FACE = {
        "public static final int BAD_REPLICA",
        "public static final int BAD_PLACE",
        "public static final int FULL",
        "public static final int SAME",
        "public static final int NONE",
        "public RgaText()",
        "public int insert(int,int,int)",
        "public int delete(int,int)",
        "public int learn(int,int)",
        "public int length(int)",
        "public int charAt(int,int)",
        "public int elementAt(int,int)",
        "public int placeOf(int,int)",
        "public int known(int)",
        "public int rank(int,int)",
        "public boolean sameText(int,int)",
    };
    private static int wrong = 0;

    public static void main(String[] args) {
        Set<String> due = new TreeSet<>(Arrays.asList(FACE));
        Set<String> seen = new TreeSet<>();
        for (Field field : RgaText.class.getDeclaredFields()) {
            addVisible(seen, field, field.toString());
        }
        for (Constructor<?> constructor : RgaText.class.getDeclaredConstructors()) {
            addVisible(seen, constructor, constructor.toString());
        }
        for (Method method : RgaText.class.getDeclaredMethods()) {
            addVisible(seen, method, method.toString());
        }
        for (String member : due) {
            check(seen.contains(member), "missing: " + member);
        }
        for (String member : seen) {
            check(due.contains(member), "not in the face: " + member);
        }
        int modifiers = RgaText.class.getModifiers();
        check(modifiers == (Modifier.PUBLIC | Modifier.FINAL), "the class is " + Modifier.toString(modifiers));
        check(RgaText.class.getDeclaredClasses().length == 0, "the class has a nested class");
        checkPrivateNames();
        System.out.println(wrong == 0 ? "the face is as due" : wrong + " faults in the face");
        if (wrong != 0) {
            System.exit(1);
        }
    }

    private static void checkPrivateNames() {
        Set<String> open = new TreeSet<>();
        for (Method method : RgaText.class.getMethods()) {
            open.add(method.getName());
        }
        for (Method method : RgaText.class.getDeclaredMethods()) {
            if (Modifier.isPrivate(method.getModifiers())) {
                check(!open.contains(method.getName()), "private with a public name: " + method);
            }
        }
    }

    private static void addVisible(Set<String> seen, Member member, String text) {
        if (!Modifier.isPrivate(member.getModifiers())) {
            seen.add(text.replace("RgaText.", ""));
        }
    }

    private static void check(boolean good, String fault) {
        if (!good) {
            wrong++;
            System.out.println(fault);
        }
    }
}
