import java.lang.reflect.Constructor;
import java.lang.reflect.Field;
import java.lang.reflect.Method;
import java.lang.reflect.Modifier;
import java.util.Arrays;
import java.util.Set;
import java.util.TreeSet;

// The class shows the members of the document's face and no others.
public final class FaceTest {
    private static final String[] FACE = {
        "public static final int BAD = -1",
        "public static final int NO_ROOM = -2",
        "public static final int BROKEN = -3",
        "public static final int WAIT = -4",
        "public static final int END = -5",
        "public DescriptorTable()",
        "public int DescriptorTable.open(int,int)",
        "public int DescriptorTable.pipe(int)",
        "public int DescriptorTable.dup(int,int)",
        "public int DescriptorTable.close(int,int)",
        "public int DescriptorTable.fork(int)",
        "public int DescriptorTable.exit(int)",
        "public int DescriptorTable.write(int,int,int)",
        "public int DescriptorTable.read(int,int)",
        "public int DescriptorTable.seek(int,int,int)",
        "public int DescriptorTable.link(int,int)",
        "public int DescriptorTable.unlink(int)",
        "public int DescriptorTable.counts()",
    };

    private static int wrong = 0;

    private static void fault(String text) {
        wrong++;
        System.out.println(text);
    }

    private static Set<String> membersShown() throws IllegalAccessException {
        Set<String> shown = new TreeSet<>();
        for (Field field : DescriptorTable.class.getDeclaredFields()) {
            if (!Modifier.isPrivate(field.getModifiers())) {
                String value = Modifier.isStatic(field.getModifiers()) ? " = " + field.get(null) : "";
                shown.add(Modifier.toString(field.getModifiers()) + " " + field.getType() + " "
                    + field.getName() + value);
            }
        }
        for (Constructor<?> constructor : DescriptorTable.class.getDeclaredConstructors()) {
            shown.add(constructor.toString());
        }
        for (Method method : DescriptorTable.class.getDeclaredMethods()) {
            if (!Modifier.isPrivate(method.getModifiers())) {
                shown.add(method.toString());
            }
        }
        return shown;
    }

    private static void checkClass() {
        int modifiers = DescriptorTable.class.getModifiers();
        if (modifiers != (Modifier.PUBLIC | Modifier.FINAL)) {
            fault("the class is " + Modifier.toString(modifiers) + ", due is public final");
        }
        if (DescriptorTable.class.getDeclaredClasses().length != 0) {
            fault("the class has a nested class");
        }
        if (DescriptorTable.class.getSuperclass() != Object.class
                || DescriptorTable.class.getInterfaces().length != 0) {
            fault("the class extends or implements another");
        }
    }

    private static void checkPrivateNames() {
        Set<String> names = new TreeSet<>();
        for (Method method : DescriptorTable.class.getDeclaredMethods()) {
            if (!names.add(method.getName())) {
                fault("two methods bear the name " + method.getName());
            }
        }
    }

    public static void main(String[] args) throws IllegalAccessException {
        checkClass();
        checkPrivateNames();
        Set<String> due = new TreeSet<>(Arrays.asList(FACE));
        Set<String> shown = membersShown();
        for (String member : due) {
            if (!shown.contains(member)) {
                fault("missing: " + member);
            }
        }
        for (String member : shown) {
            if (!due.contains(member)) {
                fault("not of the document: " + member);
            }
        }
        System.out.println(wrong == 0 ? "the face is as due" : wrong + " faults of the face");
        if (wrong != 0) {
            System.exit(1);
        }
    }
}
