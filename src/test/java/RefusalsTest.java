/**
 * The section EXCEPTIONS of the document, and every "Throws" of its promises: each argument just below,
 * just above and far outside of what it may be, and at both ends of that; which exception comes first;
 * and that a refused call changes neither the layout nor its text, its slots or its records.
 */
public final class RefusalsTest {
    /** Panes that do not exist in the layout full(): g was removed, i to l were never created. */
    private static final String[] NO_PANES = {"MIN", "-1", "6", "8", "11", "12", "MAX"};
    /** Windows that do not exist there: window 2 is gone, 4 never was. */
    private static final String[] NO_WINDOWS = {"MIN", "-1", "2", "4", "5", "MAX"};

    public static void main(String[] args) {
        panes();
        panesAtTheEnds();
        windows();
        ranges();
        createRefused();
        dockRefused();
        startRefused();
        floatRefused();
        notPlaced();
        activateAndTabs();
        dragRefused();
        evenRefused();
        slots();
        texts();
        undoRefused();
        withoutRecords();
        Check.finish();
    }

    /** Panes a, c, d in the main window, e in window 1, h in 3; b hidden beside a, f not placed; slot 1 in use. */
    private static Run full() {
        Run x = Check.layout(8, "H(3:ab-,4:V(1:c-,2:d))");
        x.floatAt(4, 1, 2, 30, 40);
        x.floatAt(5, 3, 4, 30, 40);
        x.floatAt(7, 5, 6, 30, 40);
        x.store(1);
        x.remove(6);
        x.takeAway(5);
        x.show(2, true);
        x.activate(3);
        return x;
    }

    /** A layout with all panes: a to g in the main window, and four floating windows; l is in the last one. */
    private static Run crowded() {
        Run x = Check.layout(12, "H(1:abc,1:V(1:de,1:fg))");
        for (int pane = 7; pane < 11; pane++) {
            x.floatAt(pane, pane, pane, 20, 20);
        }
        x.dock(11, 10, 4);
        return x;
    }

    private static void refused(Run x, String line, Class<?> want) {
        Check.refused(line, x, want, () -> x.call(line));
    }

    private static void accepted(Run x, String line) {
        try {
            x.call(line);
        } catch (RuntimeException e) {
            Check.due(line, e.toString(), "an answer");
        }
    }

    private static void each(String line, String[] values, Class<?> want) {
        Run x = full();
        for (String value : values) {
            refused(x, line.replace("?", value), want);
        }
    }

    /** The argument that is told as "?" may be from least to most, and is refused outside of that. */
    private static void range(String line, int least, int most, Class<?> want) {
        String[] outside = {"MIN", "" + (least - 1), "" + (most + 1), "MAX"};
        each(line, outside, want);
        accepted(full(), line.replace("?", "" + least));
        accepted(full(), line.replace("?", "" + most));
    }

    /** "Throws IndexOutOfBoundsException if there is no such pane": also if other arguments are wrong. */
    private static void panes() {
        String[] lines = {
            "remove ?", "setMinimum ? 5 5", "setMinimum ? 0 41", "pane ? 0", "pane ? 9", "pane ? -1", "rectangle ? 0",
            "rectangle ? 4", "rectangle ? -1", "tab ? 0", "tab ? -1", "dock ? 0 0", "dock 0 ? 0", "dock ? ? 0",
            "dock ? ? 5", "dock 5 ? -1", "dock ? 5 0", "dock ? 5 5", "start ?", "floatAt ? 0 0 10 10",
            "floatAt ? 401 -401 9 401", "takeAway ?", "show ? 0", "show ? 1", "activate ?", "moveTab ? 0", "moveTab ? -1",
            "drag ? 1 1", "drag ? 4 401", "even ?"
        };
        for (String line : lines) {
            each(line, NO_PANES, Check.INDEX);
        }
    }

    /** Panes 0 and 11 are panes as all others. */
    private static void panesAtTheEnds() {
        String[] lines = {
            "remove ?", "setMinimum ? 5 5", "pane ? 0", "rectangle ? 0", "tab ? 0", "dock ? 4 0", "dock 4 ? 0",
            "takeAway ?", "show ? 0", "activate ?", "moveTab ? 0"
        };
        for (String line : lines) {
            accepted(crowded(), line.replace("?", "0"));
            accepted(crowded(), line.replace("?", "11"));
        }
        for (String line : new String[] {"start ?", "floatAt ? 0 0 10 10"}) {
            accepted(Check.layout(12, ""), line.replace("?", "0"));
            accepted(Check.layout(12, ""), line.replace("?", "11"));
        }
    }

    /** "Throws IndexOutOfBoundsException if there is no such window". */
    private static void windows() {
        String[] lines = {
            "resize ? 10 10", "resize ? 9 401", "move ? 0 0", "move ? -401 401", "raise ?", "window ? 0", "window ? 8",
            "window ? -1", "write ?"
        };
        for (String line : lines) {
            each(line, NO_WINDOWS, Check.INDEX);
        }
        for (String line : new String[] {"resize ? 10 10", "window ? 0", "write ?"}) {
            accepted(crowded(), line.replace("?", "0"));
            accepted(crowded(), line.replace("?", "4"));
        }
        accepted(crowded(), "move 4 0 0");
        accepted(crowded(), "raise 4");
        refused(full(), "move 0 0 0", Check.STATE);
        refused(full(), "raise 0", Check.STATE);
        refused(full(), "move 0 401 0", Check.ARGUMENT);
        refused(full(), "move 0 0 -401", Check.ARGUMENT);
    }

    /** All arguments that have a range, whatever they are. */
    private static void ranges() {
        range("create ? 5", 1, 40, Check.ARGUMENT);
        range("create 5 ?", 1, 40, Check.ARGUMENT);
        range("setMinimum 0 ? 5", 1, 40, Check.ARGUMENT);
        range("setMinimum 5 5 ?", 1, 40, Check.ARGUMENT);
        range("pane 0 ?", 0, 8, Check.ARGUMENT);
        range("pane 5 ?", 0, 8, Check.ARGUMENT);
        range("rectangle 0 ?", 0, 3, Check.ARGUMENT);
        range("rectangle 5 ?", 0, 3, Check.ARGUMENT);
        for (int window = 0; window <= 3; window += 3) {
            range("resize " + window + " ? 50", 10, 400, Check.ARGUMENT);
            range("resize " + window + " 50 ?", 10, 400, Check.ARGUMENT);
            range("window " + window + " ?", 0, 7, Check.ARGUMENT);
        }
        range("move 3 ? 0", -400, 400, Check.ARGUMENT);
        range("move 3 0 ?", -400, 400, Check.ARGUMENT);
        range("dock 5 0 ?", 0, 4, Check.ARGUMENT);
        range("floatAt 0 ? 0 10 10", -400, 400, Check.ARGUMENT);
        range("floatAt 0 0 ? 10 10", -400, 400, Check.ARGUMENT);
        range("floatAt 0 0 0 ? 10", 10, 400, Check.ARGUMENT);
        range("floatAt 0 0 0 10 ?", 10, 400, Check.ARGUMENT);
        range("drag 0 1 ?", -400, 400, Check.ARGUMENT);
        range("store ?", 0, 2, Check.INDEX);
        range("type ?", 32, 126, Check.ARGUMENT);
        range("moveTab 0 ?", 0, 1, Check.ARGUMENT);
        each("drag 0 ? 0", new String[] {"MIN", "-1", "4", "MAX"}, Check.ARGUMENT);
        each("restore ?", new String[] {"MIN", "-1", "3", "MAX"}, Check.INDEX);
    }

    /** "Throws IllegalStateException if there are 12 panes". */
    private static void createRefused() {
        Run x = crowded();
        refused(x, "create 1 1", Check.STATE);
        refused(x, "create 40 40", Check.STATE);
        for (String line : new String[] {"create 0 1", "create 1 0", "create 41 1", "create 1 41", "create 0 41"}) {
            refused(x, line, Check.ARGUMENT);
        }
        x.remove(4);
        Check.due("2: eleven panes", x.create(1, 1), 4);
        refused(x, "create 1 1", Check.STATE);
    }

    private static void dockRefused() {
        Run x = full();
        refused(x, "dock 0 0 0", Check.ARGUMENT);
        refused(x, "dock 0 0 5", Check.ARGUMENT);
        refused(x, "dock 5 5 4", Check.ARGUMENT);
        refused(x, "dock 0 5 5", Check.ARGUMENT);
        refused(x, "dock 0 5 -1", Check.ARGUMENT);
        for (int side = 0; side <= 4; side++) {
            refused(x, "dock 0 5 " + side, Check.STATE);
        }
        accepted(x, "dock 5 1 4");
    }

    /** "Throws IllegalStateException if another pane is placed in the main window". */
    private static void startRefused() {
        Run x = full();
        for (int pane : new int[] {0, 1, 3, 4, 5}) {
            refused(x, "start " + pane, Check.STATE);
        }
        Run hidden = Check.layout(3, "a-");
        refused(hidden, "start 1", Check.STATE);
        hidden.dock(1, 0, 4);
        refused(hidden, "start 0", Check.STATE);
        refused(hidden, "start 1", Check.STATE);
        hidden.takeAway(1);
        accepted(hidden, "start 0");
        hidden.takeAway(0);
        accepted(hidden, "start 2");
    }

    /** "Throws IllegalStateException if there are 4 floating windows (even if one would disappear)". */
    private static void floatRefused() {
        Run x = crowded();
        for (int pane : new int[] {0, 6, 7, 9, 10, 11}) {
            refused(x, "floatAt " + pane + " 0 0 10 10", Check.STATE);
        }
        refused(x, "floatAt 7 401 0 10 10", Check.ARGUMENT);
        refused(x, "floatAt 7 0 -401 10 10", Check.ARGUMENT);
        refused(x, "floatAt 7 0 0 9 10", Check.ARGUMENT);
        refused(x, "floatAt 7 0 0 10 401", Check.ARGUMENT);
        refused(x, "floatAt 12 0 0 10 10", Check.INDEX);
        x.takeAway(8);
        accepted(x, "floatAt 7 0 0 10 10");
    }

    /** "Throws IllegalStateException if the pane is not placed". */
    private static void notPlaced() {
        Run x = full();
        String[] lines = {
            "takeAway 5", "show 5 0", "show 5 1", "activate 5", "moveTab 5 0", "moveTab 5 -1", "moveTab 5 MAX", "drag 5 0 0",
            "drag 5 3 400", "even 5"
        };
        for (String line : lines) {
            refused(x, line, Check.STATE);
        }
        refused(x, "drag 5 4 0", Check.ARGUMENT);
        refused(x, "drag 5 0 401", Check.ARGUMENT);
    }

    private static void activateAndTabs() {
        Run x = full();
        refused(x, "activate 1", Check.STATE);
        x.show(1, true);
        accepted(x, "activate 1");
        accepted(x, "moveTab 1 0");
        refused(x, "moveTab 4 1", Check.ARGUMENT);
        refused(x, "moveTab 3 -1", Check.ARGUMENT);
        x.dock(5, 4, 4);
        accepted(x, "moveTab 4 1");
    }

    /** "Throws IllegalStateException if the pane is not placed, its group is not shown, or there is no such divider". */
    private static void dragRefused() {
        Run x = full();
        refused(x, "drag 0 0 0", Check.STATE);
        refused(x, "drag 0 2 0", Check.STATE);
        refused(x, "drag 0 3 0", Check.STATE);
        refused(x, "drag 3 1 0", Check.STATE);
        refused(x, "drag 3 3 0", Check.STATE);
        refused(x, "drag 4 0 0", Check.STATE);
        accepted(full(), "drag 1 1 0");
        accepted(full(), "drag 3 0 0");
        accepted(full(), "drag 3 2 0");
        x.show(2, false);
        refused(x, "drag 3 2 0", Check.STATE);
        refused(x, "drag 2 0 0", Check.STATE);
        refused(x, "drag 2 4 0", Check.ARGUMENT);
        refused(x, "drag 2 0 -401", Check.ARGUMENT);
        x.show(3, false);
        refused(x, "drag 0 1 0", Check.STATE);
    }

    /** "Throws IllegalStateException if the pane is not placed, or its group is the root". */
    private static void evenRefused() {
        Run x = full();
        refused(x, "even 4", Check.STATE);
        x.takeAway(2);
        x.takeAway(3);
        refused(x, "even 0", Check.STATE);
        refused(x, "even 1", Check.STATE);
    }

    /** "Throws IllegalStateException if nothing is saved there". */
    private static void slots() {
        refused(full(), "restore 0", Check.STATE);
        refused(full(), "restore 2", Check.STATE);
        accepted(full(), "restore 1");
        for (int slot = 0; slot < 3; slot++) {
            Run x = new Run();
            refused(x, "restore " + slot, Check.STATE);
            x.store(slot);
            accepted(x, "restore " + slot);
            refused(x, "restore " + (slot + 1) % 3, Check.STATE);
            refused(x, "restore " + (slot + 2) % 3, Check.STATE);
        }
    }

    private static void texts() {
        Run x = full();
        Check.typeText(x, "!".repeat(119));
        accepted(x, "type 33");
        for (String code : new String[] {"32", "126", "65"}) {
            refused(x, "type " + code, Check.STATE);
        }
        for (String code : new String[] {"MIN", "-1", "31", "127", "MAX"}) {
            refused(x, "type " + code, Check.ARGUMENT);
        }
        refused(x, "read", Check.ARGUMENT);
        Run empty = full();
        empty.clearText();
        refused(empty, "read", Check.ARGUMENT);
    }

    /** "Throws IllegalStateException if there is none". */
    private static void undoRefused() {
        Run x = new Run();
        refused(x, "undo", Check.STATE);
        x.create(1, 1);
        accepted(x, "undo");
        refused(x, "undo", Check.STATE);
        Run more = full();
        for (int k = 0; k < 5; k++) {
            accepted(more, "undo");
        }
        refused(more, "undo", Check.STATE);
    }

    /** Where nothing is recorded, a refused call records nothing either. */
    private static void withoutRecords() {
        String[] lines = {
            "create 0 1", "remove 0", "setMinimum 0 1 1", "resize 0 9 9", "resize 1 10 10", "move 0 0 0", "raise 0",
            "dock 0 1 0", "start 0", "floatAt 0 0 0 10 10", "takeAway 0", "show 0 1", "activate 0", "moveTab 0 0",
            "drag 0 0 0", "even 0", "store 3", "restore 0", "read"
        };
        for (String line : lines) {
            Run x = new Run();
            accepted(x, "panes");
            try {
                x.call(line);
                Check.due(line, "an answer", "an exception");
            } catch (RuntimeException e) {
                refused(x, "undo", Check.STATE);
            }
        }
    }
}
