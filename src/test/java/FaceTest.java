import java.lang.reflect.Constructor;
import java.lang.reflect.Field;
import java.lang.reflect.Method;
import java.lang.reflect.Modifier;
import java.util.ArrayList;
import java.util.Arrays;
import java.util.Collections;
import java.util.List;

/** The face of the class: what the document lists, with its exceptions, and no other member that can be seen. */
public final class FaceTest {
    private static final String I = "IndexOutOfBoundsException";
    private static final String A = "IllegalArgumentException";
    private static final String S = "IllegalStateException";
    private static final String[] FACE = {
        "int create(int, int) " + A + " " + S,
        "int remove(int) " + I,
        "int setMinimum(int, int, int) " + I + " " + A,
        "int panes()",
        "int pane(int, int) " + I + " " + A,
        "int rectangle(int, int) " + I + " " + A,
        "int tab(int, int) " + I,
        "int resize(int, int, int) " + I + " " + A,
        "int move(int, int, int) " + I + " " + A + " " + S,
        "int raise(int) " + I + " " + S,
        "int window(int, int) " + I + " " + A,
        "int floating(int)",
        "int dock(int, int, int) " + I + " " + A + " " + S,
        "int start(int) " + I + " " + S,
        "int floatAt(int, int, int, int, int) " + I + " " + A + " " + S,
        "int takeAway(int) " + I + " " + S,
        "boolean show(int, boolean) " + I + " " + S,
        "int activate(int) " + I + " " + S,
        "int moveTab(int, int) " + I + " " + S + " " + A,
        "int drag(int, int, int) " + I + " " + A + " " + S,
        "int even(int) " + I + " " + S,
        "int focus(int)",
        "int kindAt(int, int)",
        "int paneAt(int, int)",
        "int dropAt(int, int)",
        "int store(int) " + I,
        "int restore(int) " + I + " " + S,
        "int type(int) " + A + " " + S,
        "int clearText()",
        "int fault()",
        "int read() " + A,
        "int write(int) " + I + " " + S,
        "int character(int)",
        "int undo() " + S,
        "long checksum()"
    };

    public static void main(String[] args) {
        Check.due("the class is public and final", Modifier.toString(DockLayout.class.getModifiers()), "public final");
        List<String> seen = new ArrayList<>();
        List<String> hidden = new ArrayList<>();
        for (Method method : DockLayout.class.getDeclaredMethods()) {
            if (Modifier.isPrivate(method.getModifiers())) {
                hidden.add(method.getName());
            } else if (!method.isSynthetic()) {
                seen.add(told(method));
                Check.due(method.getName() + " is public alone", Modifier.toString(method.getModifiers()), "public");
            }
        }
        List<String> due = new ArrayList<>(Arrays.asList(FACE));
        Collections.sort(due);
        Collections.sort(seen);
        Check.due("the methods", seen.toString(), due.toString());
        for (String line : FACE) {
            String name = line.substring(line.indexOf(' ') + 1, line.indexOf('('));
            Check.due("a private method named " + name, hidden.contains(name), false);
        }
        constructors();
        fields();
        Check.finish();
    }

    private static String told(Method method) {
        StringBuilder line = new StringBuilder(method.getReturnType().getSimpleName() + " " + method.getName() + "(");
        for (Class<?> type : method.getParameterTypes()) {
            line.append(line.charAt(line.length() - 1) == '(' ? "" : ", ").append(type.getSimpleName());
        }
        line.append(")");
        for (Class<?> type : method.getExceptionTypes()) {
            line.append(" ").append(type.getSimpleName());
        }
        return line.toString();
    }

    private static void constructors() {
        Constructor<?>[] all = DockLayout.class.getDeclaredConstructors();
        Check.due("constructors", all.length, 1);
        Check.due("parameters of the constructor", all[0].getParameterCount(), 0);
        Check.due("the constructor is public", Modifier.toString(all[0].getModifiers()), "public");
    }

    private static void fields() {
        for (Field field : DockLayout.class.getDeclaredFields()) {
            int modifiers = field.getModifiers();
            boolean none = field.getName().equals("NONE");
            Check.due(field.getName() + " is private", Modifier.isPrivate(modifiers), !none);
            Check.due(field.getName() + ", if static, is final",
                Modifier.isStatic(modifiers) && !Modifier.isFinal(modifiers), false);
            if (none) {
                Check.due("NONE", Modifier.toString(modifiers) + " " + field.getType(), "public static final int");
            }
        }
    }
}
