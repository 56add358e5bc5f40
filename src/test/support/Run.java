import java.lang.reflect.InvocationTargetException;
import java.lang.reflect.Method;
import java.util.ArrayList;
import java.util.HashMap;
import java.util.List;
import java.util.Map;

/**
 * A layout that remembers its calls. What a test looks at beside them is asked of a twin, a second
 * layout that got the same calls: so a look changes nothing, not even the text. No layout gets more
 * calls than the document speaks of, since what later ones answer is free.
 */
final class Run {
    private static final int MOST_CALLS = 512;
    private static final Map<String, Method> METHODS = new HashMap<>();

    /** A call, as it is made on any layout; a boolean answer counts 1 or 0. */
    interface Call {
        long on(DockLayout layout);
    }

    private final DockLayout layout = new DockLayout();
    private final List<Call> calls = new ArrayList<>();

    private long make(Call call) {
        if (calls.size() == MOST_CALLS) {
            throw new AssertionError("a test makes more than " + MOST_CALLS + " calls on one layout");
        }
        calls.add(call);
        return call.on(layout);
    }

    /** Another layout with the same calls; those that are refused here are refused there, too. */
    Run twin() {
        Run twin = new Run();
        for (Call call : calls) {
            try {
                twin.make(call);
            } catch (RuntimeException e) {
                continue;
            }
        }
        return twin;
    }

    int callCount() {
        return calls.size();
    }

    /** Makes a call that is told by a line: the method's name and its arguments (MIN and MAX are the ints' ends). */
    long call(String line) {
        String[] words = line.split(" ");
        int[] arguments = new int[words.length - 1];
        for (int k = 0; k < arguments.length; k++) {
            String word = words[k + 1];
            arguments[k] = word.equals("MIN") ? Integer.MIN_VALUE
                : word.equals("MAX") ? Integer.MAX_VALUE : Integer.parseInt(word);
        }
        return make(x -> callByName(x, words[0], arguments));
    }

    /** Works for every class with the face of DockLayout; arguments that the method does not take are left out. */
    static long callByName(Object layout, String name, int... arguments) {
        String key = layout.getClass().getName() + " " + name;
        if (!METHODS.containsKey(key)) {
            METHODS.put(key, methodOf(layout.getClass(), name));
        }
        Method method = METHODS.get(key);
        Class<?>[] types = method.getParameterTypes();
        Object[] given = new Object[types.length];
        for (int k = 0; k < given.length; k++) {
            given[k] = types[k] == boolean.class ? (Object) (arguments[k] == 1) : (Object) arguments[k];
        }
        return answer(layout, method, given);
    }

    private static Method methodOf(Class<?> type, String name) {
        for (Method method : type.getDeclaredMethods()) {
            if (method.getName().equals(name)) {
                method.setAccessible(true);
                return method;
            }
        }
        throw new AssertionError("there is no method " + name);
    }

    private static long answer(Object layout, Method method, Object[] given) {
        try {
            Object answer = method.invoke(layout, given);
            return answer instanceof Boolean ? ((Boolean) answer ? 1 : 0) : ((Number) answer).longValue();
        } catch (InvocationTargetException e) {
            if (e.getCause() instanceof RuntimeException) {
                throw (RuntimeException) e.getCause();
            }
            throw new AssertionError(method.getName() + " failed", e.getCause());
        } catch (IllegalAccessException e) {
            throw new AssertionError(e);
        }
    }

    // ---- the face

    int create(int width, int height) {
        return (int) make(x -> x.create(width, height));
    }

    int remove(int pane) {
        return (int) make(x -> x.remove(pane));
    }

    int setMinimum(int pane, int width, int height) {
        return (int) make(x -> x.setMinimum(pane, width, height));
    }

    int panes() {
        return (int) make(x -> x.panes());
    }

    int pane(int pane, int what) {
        return (int) make(x -> x.pane(pane, what));
    }

    int rectangle(int pane, int what) {
        return (int) make(x -> x.rectangle(pane, what));
    }

    int tab(int pane, int k) {
        return (int) make(x -> x.tab(pane, k));
    }

    int resize(int window, int width, int height) {
        return (int) make(x -> x.resize(window, width, height));
    }

    int move(int window, int column, int row) {
        return (int) make(x -> x.move(window, column, row));
    }

    int raise(int window) {
        return (int) make(x -> x.raise(window));
    }

    int window(int window, int what) {
        return (int) make(x -> x.window(window, what));
    }

    int floating(int k) {
        return (int) make(x -> x.floating(k));
    }

    int dock(int pane, int target, int side) {
        return (int) make(x -> x.dock(pane, target, side));
    }

    int start(int pane) {
        return (int) make(x -> x.start(pane));
    }

    int floatAt(int pane, int column, int row, int width, int height) {
        return (int) make(x -> x.floatAt(pane, column, row, width, height));
    }

    int takeAway(int pane) {
        return (int) make(x -> x.takeAway(pane));
    }

    boolean show(int pane, boolean shown) {
        return make(x -> x.show(pane, shown) ? 1 : 0) == 1;
    }

    int activate(int pane) {
        return (int) make(x -> x.activate(pane));
    }

    int moveTab(int pane, int k) {
        return (int) make(x -> x.moveTab(pane, k));
    }

    int drag(int pane, int side, int by) {
        return (int) make(x -> x.drag(pane, side, by));
    }

    int even(int pane) {
        return (int) make(x -> x.even(pane));
    }

    int focus(int k) {
        return (int) make(x -> x.focus(k));
    }

    int kindAt(int column, int row) {
        return (int) make(x -> x.kindAt(column, row));
    }

    int paneAt(int column, int row) {
        return (int) make(x -> x.paneAt(column, row));
    }

    int dropAt(int column, int row) {
        return (int) make(x -> x.dropAt(column, row));
    }

    int store(int slot) {
        return (int) make(x -> x.store(slot));
    }

    int restore(int slot) {
        return (int) make(x -> x.restore(slot));
    }

    int type(int c) {
        return (int) make(x -> x.type(c));
    }

    int clearText() {
        return (int) make(x -> x.clearText());
    }

    int fault() {
        return (int) make(x -> x.fault());
    }

    int read() {
        return (int) make(x -> x.read());
    }

    int write(int window) {
        return (int) make(x -> x.write(window));
    }

    int character(int index) {
        return (int) make(x -> x.character(index));
    }

    int undo() {
        return (int) make(x -> x.undo());
    }

    long checksum() {
        return make(x -> x.checksum());
    }
}
