/** Promises 1 to 8: a new object, panes and what is asked of them. */
public final class PanesTest {
    public static void main(String[] args) {
        newObject();
        create();
        remove();
        setMinimum();
        panes();
        pane();
        rectangle();
        tab();
        Check.finish();
    }

    private static void newObject() {
        Run x = new Run();
        Check.due("1: NONE", DockLayout.NONE, -1);
        Check.due("1: panes", x.panes(), 0);
        Check.due("1: columns", x.window(0, 2), 120);
        Check.due("1: rows", x.window(0, 3), 60);
        Check.due("1: first column", x.window(0, 0), 0);
        Check.due("1: first row", x.window(0, 1), 0);
        Check.due("1: panes of the main window", x.window(0, 4), 0);
        Check.due("1: floating", x.floating(0), -1);
        Check.due("1: focus", x.focus(0), -1);
        Check.due("1: text", x.character(0), -1);
        Check.refused("1: undo", x, Check.STATE, () -> x.undo());
        for (int slot = 0; slot < 3; slot++) {
            int k = slot;
            Check.refused("1: restore " + slot, x, Check.STATE, () -> x.restore(k));
        }
    }

    private static void create() {
        Run x = new Run();
        for (int k = 0; k < 12; k++) {
            Check.due("2: create " + k, x.create(1 + k, 40 - k), k);
        }
        Check.due("2: minimum width", x.pane(11, 0), 12);
        Check.due("2: minimum height", x.pane(11, 1), 29);
        Check.due("2: not placed", x.pane(11, 2), -1);
        Check.refused("2: a thirteenth", x, Check.STATE, () -> x.create(1, 1));
        Check.refused("2: wrong width comes first", x, Check.ARGUMENT, () -> x.create(0, 1));
        Check.refused("2: width 41", x, Check.ARGUMENT, () -> x.create(41, 1));
        Check.refused("2: height 0", x, Check.ARGUMENT, () -> x.create(1, 0));
        Check.refused("2: height 41", x, Check.ARGUMENT, () -> x.create(1, 41));
        x.remove(7);
        x.remove(3);
        Check.due("2: the lowest free number", x.create(40, 1), 3);
        Check.due("2: the next one", x.create(1, 40), 7);
        Check.due("2: undoable", x.undo(), 4);
        Check.due("2: undone", x.panes(), 4095 - 128);
    }

    private static void remove() {
        Run x = Check.layout(4, "H(1:ab*,3:c)");
        Check.refused("3: no such pane", x, Check.INDEX, () -> x.remove(4));
        Check.refused("3: below", x, Check.INDEX, () -> x.remove(-1));
        Check.refused("3: above", x, Check.INDEX, () -> x.remove(12));
        Check.due("3: not placed", x.remove(3), 3);
        Check.due("3: active", x.remove(1), 2);
        Check.due("3: focus", Check.focus(x), "ac");
        Check.due("3: sizes", Check.rectangle(x, 2), "31 0 89 60");
        Check.due("3: taken away", Check.tree(x, 0), "H(1:a*,3:c*)");
        Check.due("3: last of its group", x.remove(2), 1);
        Check.due("3: the split is replaced", Check.tree(x, 0), "a*");
        Check.due("3: sizes follow", Check.rectangle(x, 0), "0 0 120 60");
        Check.due("3: last of all", x.remove(0), 0);
        Check.due("3: no tree", x.write(0), 0);
        Check.refused("3: twice", x, Check.INDEX, () -> x.remove(0));
        x.undo();
        x.undo();
        Check.due("3: undone", Check.tree(x, 0), "H(1:a*,3:c*)");
        Check.due("3: panes undone", x.panes(), 5);
        x.create(1, 1);
        x.floatAt(1, 0, 0, 10, 10);
        x.remove(1);
        Check.refused("3: its window is gone", x, Check.INDEX, () -> x.window(1, 0));
        Check.due("3: a new one is not placed", x.pane(x.create(2, 2), 2), -1);
        Check.due("3: nor hidden", x.pane(1, 3), 0);
    }

    private static void setMinimum() {
        Run x = Check.layout(2, "H(1:a,1:b)");
        Check.due("4: previous", x.setMinimum(0, 40, 1), 504);
        Check.due("4: previous again", x.setMinimum(0, 1, 40), 4001);
        Check.due("4: width", x.pane(0, 0), 1);
        Check.due("4: height", x.pane(0, 1), 40);
        Check.due("4: the other", x.pane(1, 0), 5);
        Check.due("4: the tree's minimum", x.window(0, 6), 41);
        x.undo();
        Check.due("4: undone", x.window(0, 5), 46);
        Check.refused("4: no such pane comes first", x, Check.INDEX, () -> x.setMinimum(2, 0, 0));
        Check.refused("4: width 0", x, Check.ARGUMENT, () -> x.setMinimum(0, 0, 1));
        Check.refused("4: width 41", x, Check.ARGUMENT, () -> x.setMinimum(0, 41, 1));
        Check.refused("4: height 0", x, Check.ARGUMENT, () -> x.setMinimum(0, 1, 0));
        Check.refused("4: height 41", x, Check.ARGUMENT, () -> x.setMinimum(0, 1, 41));
        x.resize(0, 60, 20);
        x.setMinimum(1, 39, 1);
        Check.due("4: sizes follow", Check.rectangle(x, 1), "41 0 19 20");
    }

    private static void panes() {
        Run x = Check.layout(12, "");
        Check.due("5: all", x.panes(), 4095);
        x.remove(0);
        x.remove(11);
        Check.due("5: without the ends", x.panes(), 2046);
    }

    private static void pane() {
        Run x = Check.layout(6, "V(7:a-b*c,9:H(2:d-,1000000:e))");
        int[][] due = {
            {5, 4, 0, 1, 0, 0, 3, 7, 1}, {5, 4, 0, 0, 1, 1, 3, 7, 1}, {5, 4, 0, 0, 0, 2, 3, 7, 1},
            {5, 4, 0, 1, 0, 0, 1, 2, 0}, {5, 4, 0, 0, 1, 0, 1, 1000000, 0}, {5, 4, -1, 0, 0, -1, -1, -1, -1}
        };
        for (int pane = 0; pane < 6; pane++) {
            for (int what = 0; what <= 8; what++) {
                Check.due("6: pane " + pane + " " + what, x.pane(pane, what), due[pane][what]);
            }
        }
        x.floatAt(5, 1, 2, 30, 40);
        Check.due("6: window", x.pane(5, 2), 1);
        Check.due("6: position", x.pane(5, 5), 0);
        Check.due("6: number", x.pane(5, 6), 1);
        Check.due("6: weight of a root", x.pane(5, 7), -1);
        Check.due("6: direction of a root", x.pane(5, 8), -1);
        Check.refused("6: no such pane comes first", x, Check.INDEX, () -> x.pane(6, 9));
        Check.refused("6: above", x, Check.INDEX, () -> x.pane(12, 0));
        Check.refused("6: below", x, Check.INDEX, () -> x.pane(-1, 0));
        Check.refused("6: what 9", x, Check.ARGUMENT, () -> x.pane(0, 9));
        Check.refused("6: what -1", x, Check.ARGUMENT, () -> x.pane(0, -1));
        x.show(1, false);
        Check.due("6: hidden", x.pane(1, 3), 1);
        Check.due("6: not active", x.pane(1, 4), 0);
        x.takeAway(1);
        Check.due("6: no position when not placed", x.pane(1, 5), -1);
        Check.due("6: not hidden when not placed", x.pane(1, 3), 0);
        Check.due("6: not active when not placed", x.pane(1, 4), 0);
    }

    private static void rectangle() {
        Run x = Check.layout(4, "H(1:a-b,2:c-)");
        Check.due("7: a shown group's", Check.rectangle(x, 1), "0 0 120 60");
        Check.due("7: also for its hidden pane", Check.rectangle(x, 0), "0 0 120 60");
        Check.due("7: a group that is not shown", Check.rectangle(x, 2), "-1 -1 -1 -1");
        Check.due("7: not placed", Check.rectangle(x, 3), "-1 -1 -1 -1");
        x.show(2, true);
        Check.due("7: weight 1", Check.rectangle(x, 1), "0 0 40 60");
        Check.due("7: weight 2", Check.rectangle(x, 2), "41 0 79 60");
        x.floatAt(3, -7, -9, 33, 44);
        Check.due("7: a floating one", Check.rectangle(x, 3), "-7 -9 33 44");
        Check.refused("7: no such pane comes first", x, Check.INDEX, () -> x.rectangle(4, 4));
        Check.refused("7: below", x, Check.INDEX, () -> x.rectangle(-1, 0));
        Check.refused("7: what 4", x, Check.ARGUMENT, () -> x.rectangle(3, 4));
        Check.refused("7: what -1", x, Check.ARGUMENT, () -> x.rectangle(3, -1));
    }

    private static void tab() {
        Run x = Check.layout(4, "H(1:cab-,1:d)");
        Check.refused("8: no such pane", x, Check.INDEX, () -> x.tab(4, 0));
        Check.refused("8: below", x, Check.INDEX, () -> x.tab(-1, 0));
        Check.due("8: first", x.tab(0, 0), 2);
        Check.due("8: second", x.tab(2, 1), 0);
        Check.due("8: hidden", x.tab(1, 2), 1);
        Check.due("8: behind the last", x.tab(1, 3), -1);
        Check.due("8: negative", x.tab(1, -1), -1);
        Check.due("8: far", x.tab(1, Integer.MAX_VALUE), -1);
        x.takeAway(3);
        Check.due("8: not placed", x.tab(3, 0), -1);
        Check.due("8: not placed, negative", x.tab(3, -1), -1);
    }
}
