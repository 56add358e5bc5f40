import java.util.ArrayList;
import java.util.List;

/** Promises 35 and 36: undo and the checksum. */
public final class UndoTest {
    private static final Class<?> STATE = IllegalStateException.class;

    public static void main(String[] args) {
        undo();
        fiveRecords();
        everyUndoableMethod();
        noOtherMethod();
        checksum();
        Check.finish();
    }

    private static void undo() {
        DockLayout x = new DockLayout();
        Check.refused("35: none", x, STATE, () -> x.undo());
        x.create(1, 1);
        x.create(2, 2);
        x.start(0);
        Check.due("35: two left", x.undo(), 2);
        Check.due("35: not placed", x.pane(0, 2), -1);
        Check.due("35: one left", x.undo(), 1);
        Check.due("35: one pane", x.panes(), 1);
        x.create(3, 3);
        Check.due("35: one again", x.undo(), 1);
        Check.due("35: none left", x.undo(), 0);
        Check.due("35: no pane", x.panes(), 0);
        Check.refused("35: none any more", x, STATE, () -> x.undo());
    }

    private static void fiveRecords() {
        for (int more = 0; more <= 11; more++) {
            DockLayout x = Check.layout(1, "a");
            for (int k = 1; k <= 5 + more; k++) {
                x.resize(0, 100 + k, 50);
            }
            for (int k = 4; k >= 0; k--) {
                Check.due("35: left", x.undo(), k);
                Check.due("35: columns", x.rectangle(0, 2), k + more == 0 ? 120 : 100 + k + more);
            }
            Check.refused("35: the oldest was dropped", x, STATE, () -> x.undo());
            x.resize(0, 10, 10);
            Check.due("35: a new one", x.undo(), 0);
        }
    }

    private static DockLayout full() {
        DockLayout x = Check.layout(6, "H(4:ab*,7:V(1:c-,2:d))");
        x.floatAt(4, 1, 2, 30, 40);
        x.store(1);
        x.dock(5, 4, 4);
        Check.typeText(x, "a");
        return x;
    }

    private static void everyUndoableMethod() {
        DockLayout x = full();
        List<Check.Call> calls = new ArrayList<>();
        calls.add(() -> x.create(1, 2));
        calls.add(() -> x.remove(1));
        calls.add(() -> x.setMinimum(1, 9, 9));
        calls.add(() -> x.resize(0, 10, 10));
        calls.add(() -> x.move(1, 5, 5));
        calls.add(() -> x.raise(1));
        calls.add(() -> x.dock(0, 3, 2));
        calls.add(() -> x.floatAt(0, 0, 0, 10, 10));
        calls.add(() -> x.takeAway(4));
        calls.add(() -> x.show(1, false) ? 1 : 0);
        calls.add(() -> x.activate(0));
        calls.add(() -> x.moveTab(0, 1));
        calls.add(() -> x.drag(0, 1, 3));
        calls.add(() -> x.even(0));
        calls.add(() -> x.store(2));
        calls.add(() -> x.restore(1));
        calls.add(() -> x.read());
        x.undo();
        String before = Check.picture(x) + trees(x);
        for (int k = 0; k < calls.size(); k++) {
            calls.get(k).make();
            Check.due("35: a record by call " + k, x.undo(), 4);
            Check.due("35: undone, call " + k, Check.picture(x) + trees(x), before);
        }
        DockLayout y = Check.layout(1, "");
        String empty = Check.picture(y);
        y.start(0);
        y.undo();
        Check.due("35: start undone", Check.picture(y), empty);
    }

    /** The texts of all trees; the text buffer is as before then. */
    private static String trees(DockLayout x) {
        String kept = Check.textOf(x);
        StringBuilder all = new StringBuilder(Check.focus(x) + Check.floating(x) + Check.tree(x, 0));
        for (int k = 0; x.floating(k) != DockLayout.NONE; k++) {
            all.append(Check.tree(x, x.floating(k)));
        }
        Check.typeText(x, kept);
        return all.toString();
    }

    private static void noOtherMethod() {
        DockLayout x = full();
        x.undo();
        x.undo();
        x.type('b');
        x.write(0);
        x.clearText();
        x.fault();
        x.kindAt(1, 1);
        x.paneAt(1, 1);
        x.dropAt(1, 1);
        x.checksum();
        Check.due("35: two of five were taken back", x.undo(), 2);
    }

    private static void checksum() {
        DockLayout x = new DockLayout();
        Check.due("36: new", x.checksum(), sumOf(0, 0, 0, 120, 60, 0, 0, 0, -1, 0, 0, 0, 0, 0));
        x.create(3, 4);
        Check.due("36: a pane", x.checksum(),
            sumOf(1, 3, 4, -1, 0, 0, -1, -1, -1, -1, -1, -1, -1, -1, 0, 0, 120, 60, 0, 0, 0, -1, 0, 0, 0, 0, 1));
        x.create(5, 6);
        x.start(1);
        x.floatAt(0, -7, 8, 20, 30);
        x.store(1);
        x.remove(1);
        Check.typeText(x, "ab");
        Check.due("36: more of everything", x.checksum(),
            sumOf(1, 3, 4, 1, 0, 1, 0, 1, -1, -1, -7, 8, 20, 30,
                0, 0, 120, 60, 0, 0, 0, -1, -7, 8, 20, 30, 1, 3, 5, 0, 0, 0, 1, 0, 2, 5));
        Check.due("36: it changes nothing", x.checksum(), x.checksum());
        DockLayout y = full();
        Check.due("36: a full layout", y.checksum(), sumOf(y, 6, 2, 1));
        y.activate(3);
        Check.due("36: the order of focus", y.checksum(), sumOf(y, 6, 2, 1));
        DockLayout z = Check.layout(12, "H(1:abc,2:d-e*f,3:g)");
        for (int pane = 7; pane <= 10; pane++) {
            z.floatAt(pane, pane, -pane, 10 + pane, 20 + pane);
        }
        z.dock(11, 10, 3);
        Check.due("36: all panes and windows", z.checksum(), sumOf(z, 12, 5, 20));
        z.raise(2);
        Check.due("36: the order of windows", z.checksum(), sumOf(z, 12, 5, 20));
    }

    private static long sumOf(int... numbers) {
        long sum = 18323;
        for (int number : numbers) {
            sum = 31 * sum + number;
        }
        return sum;
    }

    /** Of a layout without gaps, in which five records are kept; slot 1 is in use if there are 6 panes. */
    private static long sumOf(DockLayout x, int panes, int windows, int letters) {
        List<Integer> numbers = new ArrayList<>();
        numbers.add(x.panes());
        for (int k = 0; k < panes * 13; k++) {
            numbers.add(k % 13 < 9 ? x.pane(k / 13, k % 13) : x.rectangle(k / 13, k % 13 - 9));
        }
        for (int k = 0; k < windows * 8; k++) {
            numbers.add(x.window(k / 8, k % 8));
        }
        for (int k = 0; k < panes; k++) {
            numbers.add(x.focus(k));
        }
        int[] last = {0, panes == 6 ? 1 : 0, 0, letters, 5};
        for (int number : last) {
            numbers.add(number);
        }
        int[] all = new int[numbers.size()];
        for (int k = 0; k < all.length; k++) {
            all[k] = numbers.get(k);
        }
        return sumOf(all);
    }
}
