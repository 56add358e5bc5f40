/** Promises 27 and 28: saved layouts. */
public final class SlotsTest {
    private static final Class<?> INDEX = IndexOutOfBoundsException.class;
    private static final Class<?> STATE = IllegalStateException.class;

    public static void main(String[] args) {
        store();
        restore();
        restoreWithoutPanes();
        restoreUndone();
        Check.finish();
    }

    private static DockLayout saved() {
        DockLayout x = Check.layout(7, "H(3:ab*,4:V(1:c-,2:d))");
        x.floatAt(4, 1, 2, 30, 40);
        x.floatAt(5, 3, 4, 50, 20);
        x.raise(1);
        return x;
    }

    private static void store() {
        DockLayout x = saved();
        Check.due("27: placed", x.store(2), 6);
        Check.refused("27: slot 3", x, INDEX, () -> x.store(3));
        Check.refused("27: slot -1", x, INDEX, () -> x.store(-1));
        Check.refused("27: the others are empty", x, STATE, () -> x.restore(0));
        x.takeAway(0);
        Check.due("27: in place of what is there", x.store(2), 5);
        x.takeAway(1);
        Check.due("27: the newer one", x.restore(2), 5);
        Check.due("27: its tree", Check.tree(x, 0), "H(3:b*,4:V(1:c-,2:d*))");
        x.undo();
        x.undo();
        Check.due("27: undoable", x.undo(), 2);
        Check.due("27: the older one again", x.restore(2), 6);
        DockLayout y = Check.layout(1, "");
        Check.due("27: nothing is placed", y.store(0), 0);
        y.undo();
        Check.refused("27: undone", y, STATE, () -> y.restore(0));
    }

    private static void restore() {
        DockLayout x = saved();
        x.store(0);
        x.resize(0, 99, 33);
        x.move(2, 9, 9);
        x.resize(2, 11, 11);
        x.dock(4, 0, 1);
        x.show(2, true);
        x.activate(0);
        x.takeAway(3);
        x.floatAt(6, 0, 0, 10, 10);
        Check.due("28: the focus before", Check.focus(x), "gaefbc");
        Check.due("28: placed", x.restore(0), 6);
        Check.due("28: tree", Check.tree(x, 0), "H(3:ab*,4:V(1:c-,2:d*))");
        Check.due("28: order of windows", Check.floating(x), "21");
        Check.due("28: window 1", Check.rectangle(x, 4), "1 2 30 40");
        Check.due("28: window 2", Check.rectangle(x, 5), "3 4 50 20");
        Check.due("28: what is not in it", x.pane(6, 2), -1);
        Check.due("28: focus", Check.focus(x), "aefbcd");
        Check.due("28: the size of main stays", x.window(0, 2) + " " + x.window(0, 3), "99 33");
        Check.due("28: sizes follow", x.rectangle(0, 3), 33);
        Check.refused("28: slot 3", x, INDEX, () -> x.restore(3));
        Check.refused("28: slot -1", x, INDEX, () -> x.restore(-1));
        Check.refused("28: nothing there", x, STATE, () -> x.restore(1));
        x.takeAway(5);
        Check.due("28: the slot stays", x.restore(0), 6);
    }

    private static void restoreWithoutPanes() {
        DockLayout x = saved();
        x.store(1);
        x.remove(1);
        x.remove(3);
        x.remove(4);
        Check.due("28: what is left", x.restore(1), 3);
        Check.due("28: the next active one, and no split", Check.tree(x, 0), "H(3:a*,4:c-)");
        Check.due("28: a window is gone", Check.floating(x), "2");
        Check.due("28: focus", Check.focus(x), "fac");
        x.create(9, 9);
        x.create(9, 9);
        Check.due("28: the slot stays, new panes with these numbers count", x.restore(1), 5);
        Check.due("28: tree", Check.tree(x, 0), "H(3:ab*,4:V(1:c-,2:d*))");
        Check.due("28: their focus comes behind", Check.focus(x), "facbd");
        for (int pane = 0; pane < 4; pane++) {
            x.remove(pane);
        }
        x.remove(5);
        Check.due("28: none is left", x.restore(1), 0);
        Check.due("28: no tree", x.write(0), 0);
        Check.due("28: no windows", Check.floating(x), "");
    }

    private static void restoreUndone() {
        for (int slot = 0; slot < 3; slot++) {
            DockLayout y = Check.layout(2, "a");
            y.store(slot);
            y.start(0);
            y.dock(1, 0, 4);
            y.store(slot);
            y.undo();
            Check.due("35: the slot as it was", y.restore(slot), 1);
            Check.due("28: each slot", Check.tree(y, 0), "a*");
        }
        DockLayout x = saved();
        x.store(0);
        x.takeAway(5);
        x.activate(3);
        String before = Check.tree(x, 0) + Check.floating(x) + Check.focus(x);
        x.restore(0);
        Check.due("28: undoable", x.undo(), 4);
        Check.due("28: undone", Check.tree(x, 0) + Check.floating(x) + Check.focus(x), before);
    }
}
