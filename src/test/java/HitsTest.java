/** Promises 24 to 26: hits and drop targets. */
public final class HitsTest {
    public static void main(String[] args) {
        kindAt();
        paneAt();
        tabs();
        dropAt();
        windows();
        Check.finish();
    }

    /** Columns 0 to 19, a divider at 20, and from 21 to 40; rows 0 to 9, one at 10, and from 11 to 20. */
    private static DockLayout cross() {
        DockLayout x = Check.layout(4, "H(1:a,1:V(1:b,1:c))");
        x.resize(0, 41, 21);
        return x;
    }

    private static void kindAt() {
        DockLayout x = cross();
        int[][] due = {
            {0, 0, 2}, {19, 0, 2}, {20, 0, 3}, {21, 0, 2}, {40, 0, 2}, {41, 0, 0}, {-1, 0, 0}, {0, -1, 0},
            {0, 1, 1}, {0, 20, 1}, {0, 21, 0}, {20, 20, 3}, {21, 9, 1}, {21, 10, 3}, {21, 11, 2}, {40, 20, 1},
            {Integer.MAX_VALUE, 0, 0}, {0, Integer.MIN_VALUE, 0}
        };
        for (int[] d : due) {
            Check.due("24: " + d[0] + " " + d[1], x.kindAt(d[0], d[1]), d[2]);
        }
        x.show(0, false);
        x.show(1, false);
        x.show(2, false);
        Check.due("24: a tree that is not shown", x.kindAt(5, 5), 0);
        Check.due("24: no tree", new DockLayout().kindAt(5, 5), 0);
        DockLayout y = Check.layout(2, "V(1:a,1:b)");
        y.setMinimum(0, 1, 40);
        y.resize(0, 10, 10);
        Check.due("24: rows of 9 and 0", y.rectangle(0, 3) + " " + y.rectangle(1, 3), "9 0");
        Check.due("24: the last row of a", y.kindAt(0, 8), 1);
        Check.due("24: a group without rows", y.kindAt(0, 9), 3);
        Check.due("24: no pane there", y.paneAt(0, 9), -1);
        Check.due("24: no target there", y.dropAt(0, 9), -1);
    }

    private static void paneAt() {
        DockLayout x = cross();
        int[][] due = {
            {0, 0, 0}, {19, 20, 0}, {20, 5, -1}, {21, 0, 1}, {40, 9, 1}, {30, 10, -1}, {30, 11, 2}, {40, 20, 2},
            {41, 20, -1}, {5, 21, -1}, {-1, -1, -1}
        };
        for (int[] d : due) {
            Check.due("25: " + d[0] + " " + d[1], x.paneAt(d[0], d[1]), d[2]);
        }
        x.dock(3, 0, 4);
        Check.due("25: the active pane", x.paneAt(3, 3), 3);
        x.activate(0);
        Check.due("25: the active pane then", x.paneAt(3, 3), 0);
    }

    private static void tabs() {
        DockLayout x = Check.layout(4, "abc-d");
        x.resize(0, 11, 10);
        int[] due = {0, 0, 0, 1, 1, 1, 3, 3, 3, 3, 3};
        for (int column = 0; column < 11; column++) {
            Check.due("25: the tab at " + column, x.paneAt(column, 0), due[column]);
        }
        DockLayout y = Check.layout(12, "H(1:a,1:bcdef)");
        y.setMinimum(0, 6, 1);
        y.resize(0, 10, 10);
        Check.due("25: 3 columns for 5 panes", y.rectangle(1, 2), 3);
        for (int column = 7; column < 10; column++) {
            Check.due("25: the last one has all", y.paneAt(column, 0), 5);
        }
        Check.due("25: below them", y.paneAt(7, 1), 1);
        y.setMinimum(0, 4, 1);
        y.setMinimum(1, 5, 1);
        int[] single = {1, 2, 3, 4, 5};
        for (int column = 5; column < 10; column++) {
            Check.due("25: a column for each", y.paneAt(column, 0), single[column - 5]);
        }
        DockLayout z = Check.layout(2, "");
        z.floatAt(0, -30, -40, 20, 20);
        z.dock(1, 0, 4);
        Check.due("25: left of the origin", z.paneAt(-21, -40), 0);
        Check.due("25: the second tab", z.paneAt(-20, -40), 1);
    }

    private static void dropAt() {
        DockLayout x = Check.layout(1, "a");
        x.resize(0, 40, 24);
        int[][] due = {
            {0, 0, 4}, {39, 0, 4}, {0, 12, 0}, {9, 12, 0}, {10, 12, 4}, {39, 12, 1}, {30, 12, 1}, {29, 12, 4},
            {20, 1, 2}, {20, 5, 2}, {20, 6, 4}, {20, 23, 3}, {20, 18, 3}, {20, 17, 4}, {0, 23, 0}, {39, 23, 1},
            {1, 1, 0}, {38, 1, 1}, {2, 1, 2}, {5, 5, 0}, {34, 5, 1}, {34, 18, 1}, {33, 18, 3}, {40, 5, -1}, {5, 24, -1}
        };
        for (int[] d : due) {
            Check.due("26: " + d[0] + " " + d[1], x.dropAt(d[0], d[1]), d[2]);
        }
        x.resize(0, 400, 10);
        Check.due("26: rows decide", x.dropAt(200, 2), 2);
        Check.due("26: columns decide", x.dropAt(2, 3), 0);
        x.resize(0, 10, 400);
        Check.due("26: left before right", x.dropAt(4, 200), 4);
        DockLayout y = cross();
        Check.due("26: another target", y.dropAt(21, 5), 10);
        Check.due("26: its right", y.dropAt(40, 15), 21);
        Check.due("26: a divider", y.dropAt(20, 5), -1);
        Check.due("26: nothing there", new DockLayout().dropAt(5, 5), -1);
        DockLayout z = Check.layout(12, "abcdefghijkl*");
        Check.due("26: pane 11 as a tab", z.dropAt(60, 30), 114);
        Check.due("26: its tab bar", z.dropAt(0, 0), 114);
    }

    private static void windows() {
        DockLayout x = Check.layout(3, "a");
        x.floatAt(1, 5, 5, 10, 10);
        x.floatAt(2, 10, 10, 10, 10);
        Check.due("25: main", x.paneAt(4, 7), 0);
        Check.due("25: in front of it", x.paneAt(5, 7), 1);
        Check.due("25: the frontmost", x.paneAt(12, 12), 2);
        x.raise(1);
        Check.due("25: raised", x.paneAt(12, 12), 1);
        Check.due("26: raised", x.dropAt(14, 12), 11);
        x.show(1, false);
        Check.due("24: a window that shows nothing covers", x.kindAt(12, 12), 0);
        Check.due("25: no pane", x.paneAt(12, 12), -1);
        Check.due("26: no target", x.dropAt(12, 12), -1);
        Check.due("24: beside it", x.kindAt(15, 15), 1);
        x.takeAway(1);
        Check.due("24: gone", x.kindAt(12, 12), 1);
        x.move(2, -5, -5);
        Check.due("24: above the origin", x.kindAt(-5, -5), 2);
        Check.due("24: outside of main and inside", x.kindAt(-5, 4), 1);
        Check.due("24: outside", x.kindAt(-6, 4), 0);
    }
}
