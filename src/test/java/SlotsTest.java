/** Promises 27 and 28: saved layouts. */
public final class SlotsTest {
    public static void main(String[] args) {
        store();
        restore();
        restoreWithoutPanes();
        restoreUndone();
        emptySaved();
        fullSaved();
        slotsAreCopies();
        focusBehindIt();
        sizesOfWindows();
        goneInTheMiddle();
        Check.finish();
    }

    private static Run saved() {
        Run x = Check.layout(7, "H(3:ab*,4:V(1:c-,2:d))");
        x.floatAt(4, 1, 2, 30, 40);
        x.floatAt(5, 3, 4, 50, 20);
        x.raise(1);
        return x;
    }

    private static void store() {
        Run x = saved();
        Check.due("27: placed", x.store(2), 6);
        Check.refused("27: slot 3", x, Check.INDEX, () -> x.store(3));
        Check.refused("27: slot -1", x, Check.INDEX, () -> x.store(-1));
        Check.refused("27: the others are empty", x, Check.STATE, () -> x.restore(0));
        x.takeAway(0);
        Check.due("27: in place of what is there", x.store(2), 5);
        x.takeAway(1);
        Check.due("27: the newer one", x.restore(2), 5);
        Check.due("27: its tree", Check.tree(x, 0), "H(3:b*,4:V(1:c-,2:d*))");
        x.undo();
        x.undo();
        Check.due("27: undoable", x.undo(), 2);
        Check.due("27: the older one again", x.restore(2), 6);
        Run y = Check.layout(1, "");
        Check.due("27: nothing is placed", y.store(0), 0);
        y.undo();
        Check.refused("27: undone", y, Check.STATE, () -> y.restore(0));
    }

    private static void restore() {
        Run x = saved();
        x.store(0);
        x.resize(0, 99, 33);
        x.move(2, 9, 9);
        x.resize(2, 11, 11);
        x.dock(4, 0, 1);
        x.show(2, true);
        x.activate(0);
        x.takeAway(3);
        x.floatAt(6, 0, 0, 10, 10);
        Check.due("28: the focus before", Check.focus(x), "gaefbc");
        Check.due("28: placed", x.restore(0), 6);
        Check.due("28: tree", Check.tree(x, 0), "H(3:ab*,4:V(1:c-,2:d*))");
        Check.due("28: order of windows", Check.floating(x), "21");
        Check.due("28: window 1", Check.rectangle(x, 4), "1 2 30 40");
        Check.due("28: window 2", Check.rectangle(x, 5), "3 4 50 20");
        Check.due("28: what is not in it", x.pane(6, 2), -1);
        Check.due("28: focus", Check.focus(x), "aefbcd");
        Check.due("28: the size of main stays", x.window(0, 2) + " " + x.window(0, 3), "99 33");
        Check.due("28: sizes follow", x.rectangle(0, 3), 33);
        Check.refused("28: slot 3", x, Check.INDEX, () -> x.restore(3));
        Check.refused("28: slot -1", x, Check.INDEX, () -> x.restore(-1));
        Check.refused("28: nothing there", x, Check.STATE, () -> x.restore(1));
        x.takeAway(5);
        Check.due("28: the slot stays", x.restore(0), 6);
    }

    private static void restoreWithoutPanes() {
        Run x = saved();
        x.store(1);
        x.remove(1);
        x.remove(3);
        x.remove(4);
        Check.due("28: what is left", x.restore(1), 3);
        Check.due("28: the next active one, and no split", Check.tree(x, 0), "H(3:a*,4:c-)");
        Check.due("28: a window is gone", Check.floating(x), "2");
        Check.due("28: focus", Check.focus(x), "fac");
        x.create(9, 9);
        x.create(9, 9);
        Check.due("28: the slot stays, new panes with these numbers count", x.restore(1), 5);
        Check.due("28: tree", Check.tree(x, 0), "H(3:ab*,4:V(1:c-,2:d*))");
        Check.due("28: their focus comes behind", Check.focus(x), "facbd");
        for (int pane = 0; pane < 4; pane++) {
            x.remove(pane);
        }
        x.remove(5);
        Check.due("28: none is left", x.restore(1), 0);
        Check.due("28: no tree", x.write(0), 0);
        Check.due("28: no windows", Check.floating(x), "");
    }

    private static void restoreUndone() {
        for (int slot = 0; slot < 3; slot++) {
            Run y = Check.layout(2, "a");
            y.store(slot);
            y.start(0);
            y.dock(1, 0, 4);
            y.store(slot);
            y.undo();
            Check.due("35: the slot as it was", y.restore(slot), 1);
            Check.due("28: each slot", Check.tree(y, 0), "a*");
        }
        Run x = saved();
        x.store(0);
        x.takeAway(5);
        x.activate(3);
        String before = Check.tree(x, 0) + Check.floating(x) + Check.focus(x);
        x.restore(0);
        Check.due("28: undoable", x.undo(), 4);
        Check.due("28: undone", Check.tree(x, 0) + Check.floating(x) + Check.focus(x), before);
    }

    /** A slot in which an empty layout is saved is not an empty slot. */
    private static void emptySaved() {
        Run x = Check.layout(4, "");
        Check.due("27: nothing is placed", x.store(1), 0);
        x.start(0);
        x.dock(1, 0, 1);
        x.floatAt(2, 0, 0, 10, 10);
        Check.due("28: nothing is placed then", x.restore(1), 0);
        Check.due("28: no tree", x.write(0), 0);
        Check.due("28: no windows", Check.floating(x), "");
        Check.due("28: no focus", Check.focus(x), "");
        Check.due("28: the panes stay", x.panes(), 15);
        Check.due("28: not placed", x.pane(0, 2), -1);
        Check.due("28: again", x.restore(1), 0);
    }

    /** All panes and all windows. */
    private static void fullSaved() {
        Run x = Check.layout(12, "H(1:abc-,1000000:V(1:d-,2:e*f))");
        for (int pane = 6; pane < 10; pane++) {
            x.floatAt(pane, pane, -pane, 4 + pane, 400 - pane);
        }
        x.dock(10, 9, 2);
        x.dock(11, 10, 4);
        x.show(11, false);
        x.raise(2);
        Check.due("27: twelve", x.store(0), 12);
        Run y = x.twin();
        for (int pane = 0; pane < 12; pane++) {
            y.takeAway(pane);
        }
        Check.due("28: twelve", y.restore(0), 12);
        Check.due("28: main", Check.tree(y, 0), "H(1:a*bc-,1000000:V(1:d-,2:e*f))");
        Check.due("28: window 4", Check.tree(y, 4), "V(1000:k*l-,1000:j*)");
        Check.due("28: the order", Check.floating(y), "1342");
        for (int window = 1; window <= 4; window++) {
            for (int what = 0; what <= 7; what++) {
                Check.due("28: window " + window + " " + what, y.window(window, what), x.window(window, what));
            }
        }
        Check.due("28: the focus is in ascending order", Check.focus(y), "abcdefghijkl");
        for (int pane = 0; pane < 12; pane++) {
            y.remove(pane);
        }
        Check.due("28: without any pane", y.restore(0), 0);
        Check.due("28: without windows", Check.floating(y), "");
        for (int pane = 0; pane < 12; pane++) {
            y.create(5, 4);
        }
        Check.due("28: the slot stays", y.restore(0), 12);
        Check.due("28: main again", Check.tree(y, 0), "H(1:a*bc-,1000000:V(1:d-,2:e*f))");
    }

    /** Later changes do not reach a slot, nor do changes behind a restore. */
    private static void slotsAreCopies() {
        Run x = saved();
        x.store(0);
        String main = Check.tree(x, 0);
        x.dock(3, 0, 2);
        x.show(2, true);
        x.move(1, 99, 99);
        x.takeAway(5);
        x.restore(0);
        Check.due("28: as it was", Check.tree(x, 0), main);
        x.dock(0, 3, 2);
        x.even(2);
        x.activate(0);
        x.resize(1, 77, 77);
        x.raise(2);
        x.restore(0);
        Check.due("28: as it was again", Check.tree(x, 0), main);
        Check.due("28: window 1", Check.rectangle(x, 4), "1 2 30 40");
        Check.due("28: the order", Check.floating(x), "21");
    }

    /** "The order of focus then has the panes that were placed before, in their order, and then the others". */
    private static void focusBehindIt() {
        Run x = Check.layout(6, "abcdef");
        x.store(0);
        x.takeAway(1);
        x.takeAway(3);
        x.activate(4);
        Check.due("23: before", Check.focus(x), "eacf");
        x.restore(0);
        Check.due("28: four were placed, two were not", Check.focus(x), "eacfbd");
        x.takeAway(4);
        x.store(1);
        x.remove(0);
        x.create(5, 4);
        x.dock(4, 2, 4);
        Check.due("23: before the next", Check.focus(x), "ecfbd");
        x.restore(1);
        Check.due("28: one is not in it, one was new", Check.focus(x), "cfbda");
    }

    /** "The size of the main window stays": those of the floating ones do not. */
    private static void sizesOfWindows() {
        Run x = Check.layout(2, "a");
        x.floatAt(1, 5, 5, 50, 50);
        x.store(0);
        x.resize(0, 10, 400);
        x.resize(1, 400, 10);
        x.move(1, -400, 400);
        x.restore(0);
        Check.due("28: main", Check.rectangle(x, 0), "0 0 10 400");
        Check.due("28: floating", Check.rectangle(x, 1), "5 5 50 50");
        x.resize(0, 400, 10);
        x.takeAway(1);
        x.floatAt(0, 7, 7, 70, 70);
        x.restore(0);
        Check.due("28: main, when it was empty", Check.rectangle(x, 0), "0 0 400 10");
        Check.due("28: the window has its pane again", x.pane(1, 2), 1);
        Check.due("28: and its place", Check.rectangle(x, 1), "5 5 50 50");
    }

    /** "panes that do not exist any more are taken away ..., as described above": the active ones, whole splits, windows. */
    private static void goneInTheMiddle() {
        Run x = Check.layout(8, "H(3:ab*c,4:V(1:d,2:H(5:e,6:f)))");
        x.floatAt(6, 0, 0, 10, 10);
        x.floatAt(7, 5, 5, 10, 10);
        x.store(2);
        for (int pane : new int[] {1, 3, 4, 6}) {
            x.remove(pane);
        }
        Check.due("28: four are left", x.restore(2), 4);
        Check.due("28: the one behind is active; weights go up", Check.tree(x, 0), "H(3:ac*,4:f*)");
        Check.due("28: window 1 is gone", Check.floating(x), "2");
        x.remove(2);
        x.remove(5);
        x.restore(2);
        Check.due("28: the one before is active; the root is a group", Check.tree(x, 0), "a*");
        x.create(5, 4);
        Check.due("28: a new pane with the number of one that is gone", x.restore(2), 3);
        Check.due("28: its place", Check.tree(x, 0), "ab*");
    }
}
