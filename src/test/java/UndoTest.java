import java.math.BigInteger;
import java.util.ArrayList;
import java.util.List;

/** Promises 35 and 36: undo and the checksum. */
public final class UndoTest {
    public static void main(String[] args) {
        undo();
        everyUndoableMethod();
        textIsNotUndone();
        undoIsNotRecorded();
        noOtherMethod();
        checksum();
        endOfTheChecksum();
        Check.finish();
    }

    private static void undo() {
        Run x = new Run();
        Check.refused("35: none", x, Check.STATE, () -> x.undo());
        x.create(1, 1);
        x.create(2, 2);
        x.start(0);
        Check.due("35: two left", x.undo(), 2);
        Check.due("35: not placed", x.pane(0, 2), -1);
        Check.due("35: one left", x.undo(), 1);
        Check.due("35: one pane", x.panes(), 1);
        x.create(3, 3);
        Check.due("35: one again", x.undo(), 1);
        Check.due("35: none left", x.undo(), 0);
        Check.due("35: no pane", x.panes(), 0);
        Check.refused("35: none any more", x, Check.STATE, () -> x.undo());
    }

    /** Pane g is not placed; the records and slot 1 tell of other layouts. */
    private static Run full() {
        Run x = Check.layout(7, "H(4:ab*,7:V(1:c-,2:d))");
        x.floatAt(4, 1, 2, 30, 40);
        x.store(1);
        x.floatAt(5, 3, 4, 30, 40);
        x.activate(0);
        Check.typeText(x, "a");
        return x;
    }

    /**
     * "records the panes, the windows with their trees, the orders and the slots, as they were before the call":
     * a call and undo() leave everything as it was, the older records, too.
     */
    private static void everyUndoableMethod() {
        String[] lines = {
            "create 1 2", "remove 0", "remove 1", "remove 4", "remove 5", "setMinimum 1 9 9", "setMinimum 2 40 40",
            "resize 0 10 10", "resize 1 400 400", "move 1 5 5", "raise 1", "raise 2", "dock 0 3 2", "dock 5 4 4", "dock 4 0 4",
            "dock 3 2 0", "dock 1 0 1", "floatAt 0 0 0 10 10", "floatAt 4 0 0 10 10", "takeAway 0", "takeAway 1", "takeAway 3",
            "takeAway 4", "show 1 0", "show 1 1", "show 2 1", "show 3 0", "activate 0", "activate 1", "activate 4", "moveTab 0 1",
            "moveTab 0 0", "drag 0 1 3", "drag 0 1 0", "drag 3 0 -400", "even 0", "even 2", "store 0", "store 1", "store 2",
            "restore 1", "read"
        };
        Run x = full();
        x.undo();
        String before = Check.picture(x);
        for (String line : lines) {
            Run y = x.twin();
            y.call(line);
            Check.due("35: a record by " + line, y.undo(), 4);
            Check.due("35: undone, " + line, Check.picture(y), before);
        }
        Run z = Check.layout(1, "");
        String empty = Check.picture(z);
        z.start(0);
        z.undo();
        Check.due("35: start undone", Check.picture(z), empty);
    }

    /** Neither the text nor the number of records that are left is recorded. */
    private static void textIsNotUndone() {
        Run x = full();
        x.resize(0, 50, 50);
        x.write(0);
        Check.due("33: the tree", Check.text(x), "H(4:a*b,7:V(1:c-,2:d*))");
        x.type('x');
        Check.due("35: undone", x.undo(), 4);
        Check.due("35: the text stays", Check.text(x), "H(4:a*b,7:V(1:c-,2:d*))x");
        x.clearText();
        x.undo();
        Check.due("35: it stays empty", x.character(0), -1);
    }

    /** undo() is not undoable itself: what it restored is not restored again. */
    private static void undoIsNotRecorded() {
        Run x = Check.layout(1, "");
        x.resize(0, 11, 10);
        x.resize(0, 12, 10);
        x.undo();
        x.undo();
        Check.due("35: both are undone", x.window(0, 2), 120);
        x.resize(0, 13, 10);
        Check.due("35: the create is left", x.undo(), 1);
        Check.due("35: as before the last one", x.window(0, 2), 120);
    }

    /** "Every method that is marked "undoable"": the others make no record. */
    private static void noOtherMethod() {
        String[] lines = {
            "panes", "pane 0 0", "rectangle 0 0", "tab 0 0", "window 0 0", "floating 0", "focus 0", "kindAt 1 1", "paneAt 1 1",
            "dropAt 1 1", "type 98", "clearText", "fault", "write 0", "character 0", "checksum"
        };
        for (String line : lines) {
            Run x = full();
            x.undo();
            x.undo();
            x.call(line);
            Check.due("35: two of five were taken back, " + line, x.undo(), 2);
        }
    }

    /** "panes(); for each pane that exists, in ascending order, ...": with gaps among panes, windows and slots. */
    private static void checksum() {
        Run x = new Run();
        Check.due("36: new", x.checksum(), sumOf(0, 0, 0, 120, 60, 0, 0, 0, -1, 0, 0, 0, 0, 0));
        x.create(3, 4);
        Check.due("36: a pane", x.checksum(),
            sumOf(1, 3, 4, -1, 0, 0, -1, -1, -1, -1, -1, -1, -1, -1, 0, 0, 120, 60, 0, 0, 0, -1, 0, 0, 0, 0, 1));
        x.create(5, 6);
        x.start(1);
        x.floatAt(0, -7, 8, 20, 30);
        x.store(1);
        x.remove(1);
        Check.typeText(x, "ab");
        Check.due("36: more of everything", x.checksum(),
            sumOf(1, 3, 4, 1, 0, 1, 0, 1, -1, -1, -7, 8, 20, 30,
                0, 0, 120, 60, 0, 0, 0, -1, -7, 8, 20, 30, 1, 3, 5, 0, 0, 0, 1, 0, 2, 5));
        Check.due("36: it changes nothing", x.checksum(), x.checksum());
        Run z = Check.layout(12, "H(1:abc,2:d-e*f,3:g)");
        for (int pane = 7; pane <= 10; pane++) {
            z.floatAt(pane, pane, -pane, 10 + pane, 20 + pane);
        }
        z.dock(11, 10, 3);
        z.raise(2);
        Check.due("36: all panes and windows", z.checksum(), sumOf(z, 0, 5));
        z.activate(3 + 2);
        z.moveTab(5, 0);
        Check.due("36: the order of focus", z.checksum(), sumOf(z, 0, 5));
        for (int pane : new int[] {0, 4, 7, 9, 11}) {
            z.remove(pane);
            Check.due("36: gaps", z.checksum(), sumOf(z, 0, 5));
        }
        Check.due("36: windows with gaps", Check.floating(z), "42");
    }

    /** "for each slot 1 if something is saved there and 0 if not; the length of the text; the number of records". */
    private static void endOfTheChecksum() {
        for (int slots = 0; slots < 8; slots++) {
            Run x = new Run();
            for (int slot = 0; slot < 3; slot++) {
                if ((slots >> slot & 1) == 1) {
                    x.store(slot);
                }
            }
            Check.due("36: slots " + slots, x.checksum(), sumOf(x, slots, Integer.bitCount(slots)));
        }
        Run x = new Run();
        for (int length = 1; length <= 120; length++) {
            x.type('!');
            Check.due("36: length", x.checksum(), sumOf(x, 0, 0));
        }
        Run y = new Run();
        for (int k = 1; k <= 7; k++) {
            y.create(k, k);
            Check.due("36: records", y.checksum(), sumOf(y, 0, Math.min(k, 5)));
        }
        for (int left = 4; left >= 0; left--) {
            y.undo();
            Check.due("36: records left", y.checksum(), sumOf(y, 0, left));
        }
    }

    /** "h becomes 31 * h + v (long arithmetic that wraps)": here it is reduced at the end, once. */
    private static long sumOf(int... numbers) {
        BigInteger sum = BigInteger.valueOf(18323);
        for (int number : numbers) {
            sum = sum.multiply(BigInteger.valueOf(31)).add(BigInteger.valueOf(number));
        }
        return sum.longValue();
    }

    private static long sumOf(Run x, int slots, int records) {
        List<Integer> numbers = new ArrayList<>();
        Run y = x.twin();
        int panes = y.panes();
        numbers.add(panes);
        for (int k = 0; k < 12 * 13; k++) {
            if ((panes >> k / 13 & 1) == 1) {
                numbers.add(k % 13 < 9 ? y.pane(k / 13, k % 13) : y.rectangle(k / 13, k % 13 - 9));
            }
        }
        String windows = "0" + Check.floating(x);
        for (int k = 0; k < 5 * 8; k++) {
            if (windows.indexOf('0' + k / 8) >= 0) {
                numbers.add(y.window(k / 8, k % 8));
            }
        }
        for (char pane : Check.focus(x).toCharArray()) {
            numbers.add(pane - 'a');
        }
        for (int slot = 0; slot < 3; slot++) {
            numbers.add(slots >> slot & 1);
        }
        numbers.add(Check.text(x).length());
        numbers.add(records);
        int[] all = new int[numbers.size()];
        for (int k = 0; k < all.length; k++) {
            all[k] = numbers.get(k);
        }
        return sumOf(all);
    }
}
