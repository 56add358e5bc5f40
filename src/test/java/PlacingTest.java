/** Promises 14 to 20, 22 and 23: placing panes, tabs, weights and the order of focus. */
public final class PlacingTest {
    public static void main(String[] args) {
        dockSides();
        dockInSplits();
        dockMoves();
        dockRefused();
        start();
        floatAt();
        takeAway();
        show();
        activate();
        moveTab();
        even();
        focus();
        manySplits();
        twelveTabs();
        Check.finish();
    }

    private static void dockSides() {
        String[] due = {"H(1000:b*,1000:a*)", "H(1000:a*,1000:b*)", "V(1000:b*,1000:a*)", "V(1000:a*,1000:b*)", "ab*"};
        String[] places = {"0 0 60 60", "61 0 59 60", "0 0 120 30", "0 31 120 29", "0 0 120 60"};
        for (int side = 0; side <= 4; side++) {
            Run x = Check.layout(2, "a");
            Check.due("14: window", x.dock(1, 0, side), 0);
            Check.due("14: side " + side, Check.tree(x, 0), due[side]);
            Check.due("14: focus", Check.focus(x), "ba");
            Check.due("14: sizes follow", Check.rectangle(x, 1), places[side]);
            Check.due("14: undoable", x.undo(), 3);
            Check.due("14: undone", Check.tree(x, 0), "a*");
        }
    }

    private static void dockInSplits() {
        String[] due = {
            "H(7:a*,2:d*,3:bc*)", "H(7:a*,3:bc*,2:d*)", "H(7:a*,5:V(1000:d*,1000:bc*))",
            "H(7:a*,5:V(1000:bc*,1000:d*))", "H(7:a*,5:bcd*)"
        };
        for (int side = 0; side <= 4; side++) {
            Run x = Check.layout(4, "H(7:a,5:bc*)");
            x.dock(3, 1, side);
            Check.due("14: in a split, side " + side, Check.tree(x, 0), due[side]);
        }
        Run one = Check.layout(3, "V(1:a,9:b)");
        one.dock(2, 0, 3);
        Check.due("14: weight 1 is halved to 1 and 1", Check.tree(one, 0), "V(1:a*,1:c*,9:b*)");
        Run hidden = Check.layout(3, "H(1:a-b,1:c)");
        hidden.dock(2, 0, 4);
        Check.due("14: at a hidden pane", Check.tree(hidden, 0), "a-bc*");
    }

    private static void dockMoves() {
        Run x = Check.layout(4, "H(8:a,4:b)");
        x.dock(1, 0, 1);
        Check.due("14: the split is gone when it is docked", Check.tree(x, 0), "H(1000:a*,1000:b*)");
        x.dock(2, 1, 3);
        x.dock(3, 2, 0);
        Check.due("14: deeper", Check.tree(x, 0), "H(1000:a*,1000:V(1000:b*,1000:H(1000:d*,1000:c*)))");
        x.dock(1, 2, 3);
        Check.due("14: a split in one of its direction", Check.tree(x, 0), "H(1000:a*,1000:H(1000:d*,1000:V(1000:c*,1000:b*)))");
        x.dock(0, 3, 4);
        Check.due("14: the root is replaced", Check.tree(x, 0), "H(1000:da*,1000:V(1000:c*,1000:b*))");
        x.dock(3, 0, 4);
        Check.due("14: as a tab of its own group", Check.tree(x, 0), "H(1000:ad*,1000:V(1000:c*,1000:b*))");
        x.show(3, false);
        x.dock(3, 0, 2);
        Check.due("14: shown again", Check.tree(x, 0), "H(1000:V(1000:d*,1000:a*),1000:V(1000:c*,1000:b*))");
        Run y = Check.layout(3, "a");
        y.floatAt(1, 0, 0, 10, 10);
        y.floatAt(2, 0, 0, 10, 10);
        Check.due("14: the floating window", y.dock(0, 1, 4), 1);
        Check.due("14: the order of the windows stays", Check.floating(y), "12");
        Check.due("14: the main window is empty", y.write(0), 0);
        Check.due("14: a window disappears", y.dock(2, 0, 0), 1);
        Check.due("14: order without it", Check.floating(y), "1");
        Check.due("14: the tree there", Check.tree(y, 1), "H(1000:c*,1000:ba*)");
    }

    private static void dockRefused() {
        Run x = Check.layout(3, "ab");
        Check.refused("14: no such pane comes first", x, Check.INDEX, () -> x.dock(3, 3, 5));
        Check.refused("14: no such target", x, Check.INDEX, () -> x.dock(0, 3, 5));
        Check.refused("14: below", x, Check.INDEX, () -> x.dock(-1, 0, 0));
        Check.refused("14: the same", x, Check.ARGUMENT, () -> x.dock(2, 2, 0));
        Check.refused("14: side 5 before the target", x, Check.ARGUMENT, () -> x.dock(0, 2, 5));
        Check.refused("14: side -1", x, Check.ARGUMENT, () -> x.dock(0, 1, -1));
        Check.refused("14: the target is not placed", x, Check.STATE, () -> x.dock(0, 2, 0));
    }

    private static void start() {
        Run x = Check.layout(3, "");
        Check.due("15: answer", x.start(1), 0);
        Check.due("15: tree", Check.tree(x, 0), "b*");
        Check.due("15: sizes follow", Check.rectangle(x, 1), "0 0 120 60");
        x.show(1, false);
        Check.due("15: the pane that is there", x.start(1), 0);
        Check.due("15: shown again", Check.tree(x, 0), "b*");
        Check.refused("15: another one is there", x, Check.STATE, () -> x.start(0));
        Check.refused("15: no such pane", x, Check.INDEX, () -> x.start(3));
        Check.refused("15: below", x, Check.INDEX, () -> x.start(-1));
        x.dock(0, 1, 4);
        Check.refused("15: not alone", x, Check.STATE, () -> x.start(1));
        x.takeAway(0);
        x.floatAt(1, 0, 0, 10, 10);
        x.floatAt(2, 0, 0, 10, 10);
        Check.due("15: out of a floating window", x.start(1), 0);
        Check.due("15: that is gone", Check.floating(x), "2");
        Check.due("15: focus", Check.focus(x), "bc");
        x.undo();
        Check.due("15: undone", Check.floating(x), "12");
    }

    private static void floatAt() {
        Run x = Check.layout(6, "H(3:a,4:bc-)");
        Check.due("16: number", x.floatAt(2, -400, 400, 10, 400), 1);
        Check.due("16: rectangle, and shown", Check.rectangle(x, 2), "-400 400 10 400");
        Check.due("16: what stays", Check.tree(x, 0), "H(3:a*,4:b*)");
        x.floatAt(3, 0, 0, 20, 20);
        Check.due("16: its window disappears first", x.floatAt(2, 400, -400, 400, 10), 1);
        Check.due("16: in front", Check.floating(x), "21");
        Check.due("16: focus", Check.focus(x), "cdab");
        Check.due("16: undoable", x.undo(), 4);
        Check.due("16: undone", Check.floating(x), "12");
        int[][] wrong = {{401, 0, 10, 10}, {-401, 0, 10, 10}, {0, 401, 10, 10}, {0, -401, 10, 10},
            {0, 0, 9, 10}, {0, 0, 401, 10}, {0, 0, 10, 9}, {0, 0, 10, 401}};
        for (int[] w : wrong) {
            Check.refused("16: out of range", x, Check.ARGUMENT, () -> x.floatAt(0, w[0], w[1], w[2], w[3]));
        }
        x.floatAt(0, 0, 0, 10, 10);
        x.floatAt(1, 0, 0, 10, 10);
        Check.due("16: four", Check.floating(x), "1234");
        Check.refused("16: five", x, Check.STATE, () -> x.floatAt(4, 0, 0, 10, 10));
        Check.refused("16: even if one would disappear", x, Check.STATE, () -> x.floatAt(1, 0, 0, 10, 10));
        Check.refused("16: range before the number", x, Check.ARGUMENT, () -> x.floatAt(1, 0, 0, 9, 10));
        Check.refused("16: no such pane comes first", x, Check.INDEX, () -> x.floatAt(6, 0, 0, 9, 10));
    }

    private static void takeAway() {
        Run x = Check.layout(7, "H(2:a,5:V(1:b,1:H(6:c-,7:de)))");
        Check.due("17: how many are left", x.takeAway(1), 4);
        Check.due("17: the child gets the weight", Check.tree(x, 0), "H(2:a*,5:H(6:c-,7:d*e))");
        x.takeAway(3);
        Check.due("17: the next tab", Check.tree(x, 0), "H(2:a*,5:H(6:c-,7:e*))");
        x.takeAway(0);
        Check.due("17: the child becomes the root", Check.tree(x, 0), "H(6:c-,7:e*)");
        Check.due("17: sizes follow", Check.rectangle(x, 4), "0 0 120 60");
        Check.due("17: focus", Check.focus(x), "ce");
        x.takeAway(4);
        Check.due("17: only a hidden one", Check.tree(x, 0), "c-");
        Check.due("17: the last", x.takeAway(2), 0);
        Check.due("17: no tree", x.write(0), 0);
        Check.refused("17: not placed", x, Check.STATE, () -> x.takeAway(2));
        Check.refused("17: no such pane comes first", x, Check.INDEX, () -> x.takeAway(7));
        x.undo();
        Check.due("17: undone", Check.tree(x, 0), "c-");
        nextActive();
    }

    private static void nextActive() {
        Run x = Check.layout(5, "ab-c*d-e");
        x.takeAway(2);
        Check.due("17: the first shown behind it", Check.tree(x, 0), "ab-d-e*");
        x.takeAway(4);
        Check.due("17: the last shown before it", Check.tree(x, 0), "a*b-d-");
        x.takeAway(0);
        Check.due("17: none", Check.tree(x, 0), "b-d-");
        Run y = Check.layout(4, "abcd*");
        y.takeAway(3);
        Check.due("17: the last one, not the first", Check.tree(y, 0), "abc*");
        y.takeAway(0);
        Check.due("17: not the active one", Check.tree(y, 0), "bc*");
    }

    private static void show() {
        Run x = Check.layout(5, "H(1:abc*,1:d)");
        Check.due("18: shown before", x.show(2, false), true);
        Check.due("18: the next active", Check.tree(x, 0), "H(1:ab*c-,1:d*)");
        Check.due("18: hidden before", x.show(2, false), false);
        Check.due("18: undoable even so", x.undo(), 4);
        x.show(0, false);
        x.show(1, false);
        Check.due("18: none shown", Check.tree(x, 0), "H(1:a-b-c-,1:d*)");
        Check.due("18: hidden", x.show(1, true), false);
        Check.due("18: the first one shown becomes active", Check.tree(x, 0), "H(1:a-b*c-,1:d*)");
        Check.due("18: not the second one", x.show(2, true), false);
        Check.due("18: tree", Check.tree(x, 0), "H(1:a-b*c,1:d*)");
        Check.due("18: shown already", x.show(2, true), true);
        Check.due("18: focus stays", Check.focus(x), "abcd");
        Check.due("18: the place is remembered", Check.rectangle(x, 3), "61 0 59 60");
        x.show(3, false);
        Check.due("18: sizes follow", Check.rectangle(x, 1), "0 0 120 60");
        x.undo();
        Check.due("18: undone", x.pane(3, 3), 0);
        Check.refused("18: not placed", x, Check.STATE, () -> x.show(4, true) ? 1 : 0);
        Check.refused("18: no such pane comes first", x, Check.INDEX, () -> x.show(5, false) ? 1 : 0);
    }

    private static void activate() {
        Run x = Check.layout(6, "H(1:ab,1:c-d)");
        x.floatAt(4, 0, 0, 10, 10);
        x.floatAt(5, 0, 0, 10, 10);
        Check.due("19: previous", x.activate(1), 0);
        Check.due("19: the same", x.activate(1), 1);
        Check.due("19: active", x.pane(0, 4), 0);
        Check.due("19: focus", Check.focus(x), "bfeacd");
        Check.due("19: windows stay", Check.floating(x), "12");
        Check.due("19: a floating one", x.activate(4), 4);
        Check.due("19: in front", Check.floating(x), "21");
        Check.due("19: focus again", Check.focus(x), "ebfacd");
        Check.due("19: undoable", x.undo(), 4);
        Check.due("19: undone", Check.floating(x) + Check.focus(x), "12bfeacd");
        Check.refused("19: hidden", x, Check.STATE, () -> x.activate(2));
        x.takeAway(3);
        Check.refused("19: not placed", x, Check.STATE, () -> x.activate(3));
        Check.refused("19: no such pane", x, Check.INDEX, () -> x.activate(6));
    }

    private static void moveTab() {
        Run x = Check.layout(6, "H(1:ab*c-d,1:e)");
        Check.due("20: to the end", x.moveTab(1, 3), 1);
        Check.due("20: tree", Check.tree(x, 0), "H(1:ac-db*,1:e*)");
        Check.due("20: to the front", x.moveTab(3, 0), 2);
        Check.due("20: tree again", Check.tree(x, 0), "H(1:dac-b*,1:e*)");
        Check.due("20: to where it is", x.moveTab(0, 1), 1);
        Check.due("20: tree still", Check.tree(x, 0), "H(1:dac-b*,1:e*)");
        Check.due("20: to the middle", x.moveTab(3, 2), 0);
        Check.due("20: tree then", Check.tree(x, 0), "H(1:ac-db*,1:e*)");
        Check.due("20: focus stays", Check.focus(x), "abcde");
        x.undo();
        Check.due("20: undone", Check.tree(x, 0), "H(1:dac-b*,1:e*)");
        Check.refused("20: no such pane comes first", x, Check.INDEX, () -> x.moveTab(6, -1));
        Check.refused("20: not placed comes next", x, Check.STATE, () -> x.moveTab(5, -1));
        Check.refused("20: negative", x, Check.ARGUMENT, () -> x.moveTab(0, -1));
        Check.refused("20: too far", x, Check.ARGUMENT, () -> x.moveTab(0, 4));
        Check.refused("20: too far in a small group", x, Check.ARGUMENT, () -> x.moveTab(4, 1));
        Check.due("20: the only place", x.moveTab(4, 0), 0);
    }

    private static void even() {
        Run x = Check.layout(6, "H(1:a,2:b-,3:V(4:c,5:d))");
        Check.due("22: all children", x.even(0), 3);
        Check.due("22: hidden ones, too, and no others", Check.tree(x, 0), "H(1000:a*,1000:b-,1000:V(4:c*,5:d*))");
        Check.due("22: sizes follow", Check.rectangle(x, 0), "0 0 60 60");
        Check.due("22: the inner split", x.even(3), 2);
        Check.due("22: tree", Check.tree(x, 0), "H(1000:a*,1000:b-,1000:V(1000:c*,1000:d*))");
        x.undo();
        x.undo();
        Check.due("22: undone", Check.tree(x, 0), "H(1:a*,2:b-,3:V(4:c*,5:d*))");
        Check.refused("22: no such pane", x, Check.INDEX, () -> x.even(6));
        Check.refused("22: not placed", x, Check.STATE, () -> x.even(4));
        x.floatAt(4, 0, 0, 10, 10);
        Check.refused("22: the root", x, Check.STATE, () -> x.even(4));
    }

    private static void focus() {
        Run x = Check.layout(5, "abc");
        Check.due("23: order", Check.focus(x), "abc");
        Check.due("23: negative", x.focus(-1), -1);
        Check.due("23: behind the last", x.focus(3), -1);
        Check.due("23: far", x.focus(Integer.MAX_VALUE), -1);
        x.activate(2);
        x.dock(3, 0, 0);
        x.floatAt(1, 0, 0, 10, 10);
        Check.due("23: the latest comes first", Check.focus(x), "bdca");
        x.takeAway(3);
        Check.due("23: one leaves", Check.focus(x), "bca");
        x.remove(2);
        Check.due("23: one is removed", Check.focus(x), "ba");
        x.undo();
        Check.due("23: undone", Check.focus(x), "bca");
    }

    /** Splits that are gone take no room from later ones. */
    private static void manySplits() {
        Run x = Check.layout(3, "a");
        for (int k = 0; k < 60; k++) {
            x.dock(1, 0, k % 4);
            x.dock(2, 1, (k + 2) % 4);
            x.takeAway(1);
            x.takeAway(2);
        }
        x.dock(1, 0, 1);
        x.dock(2, 1, 3);
        Check.due("14: after many splits", Check.tree(x, 0), "H(1000:a*,1000:V(1000:b*,1000:c*))");
    }

    private static void twelveTabs() {
        Run x = Check.layout(12, "abcdefghijk*l");
        Check.due("23: twelve", Check.focus(x), "abcdefghijkl");
        x.takeAway(10);
        Check.due("17: the twelfth tab becomes active", Check.tree(x, 0), "abcdefghijl*");
        x.dock(10, 0, 4);
        Check.due("20: the last to the front", x.moveTab(10, 0), 11);
        Check.due("20: tree", Check.tree(x, 0), "k*abcdefghijl");
        Check.due("20: the first to the end", x.moveTab(10, 11), 0);
        Check.due("20: tree again", Check.tree(x, 0), "abcdefghijlk*");
        x.show(11, false);
        x.activate(11 - 2);
        Check.due("18: pane 11", x.pane(11, 3), 1);
        Check.due("18: tree", Check.tree(x, 0), "abcdefghij*l-k");
        Check.due("25: the last tab", x.paneAt(119, 0), 10);
        x.show(11, true);
        Check.due("25: a tab of twelve", x.paneAt(109, 0), 11);
        Check.due("25: the last of twelve", x.paneAt(110, 0), 10);
        x.store(0);
        x.takeAway(11);
        Check.due("28: twelve", x.restore(0), 12);
        Check.due("28: pane 11 comes last", x.focus(11), 11);
        x.remove(11);
        Check.due("28: without pane 11", x.restore(0), 11);
        Check.due("28: no pane 11 in the order", x.focus(11), -1);
    }
}
