/** Promises 24 to 26: hits and drop targets. */
public final class HitsTest {
    public static void main(String[] args) {
        kindAt();
        paneAt();
        tabs();
        dropAt();
        dropInSmallGroups();
        dropAtTabs();
        windows();
        edgesOfWindows();
        farPoints();
        tabsOfEachWidth();
        nothingShown();
        Check.finish();
    }

    /** Columns 0 to 19, a divider at 20, and from 21 to 40; rows 0 to 9, one at 10, and from 11 to 20. */
    private static Run cross() {
        Run x = Check.layout(4, "H(1:a,1:V(1:b,1:c))");
        x.resize(0, 41, 21);
        return x;
    }

    private static void kindAt() {
        Run x = cross();
        int[][] due = {
            {0, 0, 2}, {19, 0, 2}, {20, 0, 3}, {21, 0, 2}, {40, 0, 2}, {41, 0, 0}, {-1, 0, 0}, {0, -1, 0},
            {0, 1, 1}, {0, 20, 1}, {0, 21, 0}, {20, 20, 3}, {21, 9, 1}, {21, 10, 3}, {21, 11, 2}, {40, 20, 1},
            {Integer.MAX_VALUE, 0, 0}, {0, Integer.MIN_VALUE, 0}
        };
        for (int[] d : due) {
            Check.due("24: " + d[0] + " " + d[1], x.kindAt(d[0], d[1]), d[2]);
        }
        x.show(0, false);
        x.show(1, false);
        x.show(2, false);
        Check.due("24: a tree that is not shown", x.kindAt(5, 5), 0);
        Check.due("24: no tree", new Run().kindAt(5, 5), 0);
        Run y = Check.layout(2, "V(1:a,1:b)");
        y.setMinimum(0, 1, 40);
        y.resize(0, 10, 10);
        Check.due("24: rows of 9 and 0", y.rectangle(0, 3) + " " + y.rectangle(1, 3), "9 0");
        Check.due("24: the last row of a", y.kindAt(0, 8), 1);
        Check.due("24: a group without rows", y.kindAt(0, 9), 3);
        Check.due("24: no pane there", y.paneAt(0, 9), -1);
        Check.due("24: no target there", y.dropAt(0, 9), -1);
    }

    private static void paneAt() {
        Run x = cross();
        int[][] due = {
            {0, 0, 0}, {19, 20, 0}, {20, 5, -1}, {21, 0, 1}, {40, 9, 1}, {30, 10, -1}, {30, 11, 2}, {40, 20, 2},
            {41, 20, -1}, {5, 21, -1}, {-1, -1, -1}
        };
        for (int[] d : due) {
            Check.due("25: " + d[0] + " " + d[1], x.paneAt(d[0], d[1]), d[2]);
        }
        x.dock(3, 0, 4);
        Check.due("25: the active pane", x.paneAt(3, 3), 3);
        x.activate(0);
        Check.due("25: the active pane then", x.paneAt(3, 3), 0);
    }

    private static void tabs() {
        Run x = Check.layout(4, "abc-d");
        x.resize(0, 11, 10);
        int[] due = {0, 0, 0, 1, 1, 1, 3, 3, 3, 3, 3};
        for (int column = 0; column < 11; column++) {
            Check.due("25: the tab at " + column, x.paneAt(column, 0), due[column]);
        }
        Run y = Check.layout(12, "H(1:a,1:bcdef)");
        y.setMinimum(0, 6, 1);
        y.resize(0, 10, 10);
        Check.due("25: 3 columns for 5 panes", y.rectangle(1, 2), 3);
        for (int column = 7; column < 10; column++) {
            Check.due("25: the last one has all", y.paneAt(column, 0), 5);
        }
        Check.due("25: below them", y.paneAt(7, 1), 1);
        y.setMinimum(0, 4, 1);
        y.setMinimum(1, 5, 1);
        int[] single = {1, 2, 3, 4, 5};
        for (int column = 5; column < 10; column++) {
            Check.due("25: a column for each", y.paneAt(column, 0), single[column - 5]);
        }
        Run z = Check.layout(2, "");
        z.floatAt(0, -30, -40, 20, 20);
        z.dock(1, 0, 4);
        Check.due("25: left of the origin", z.paneAt(-21, -40), 0);
        Check.due("25: the second tab", z.paneAt(-20, -40), 1);
    }

    private static void dropAt() {
        Run x = Check.layout(1, "a");
        x.resize(0, 40, 24);
        int[][] due = {
            {0, 0, 4}, {39, 0, 4}, {0, 12, 0}, {9, 12, 0}, {10, 12, 4}, {39, 12, 1}, {30, 12, 1}, {29, 12, 4},
            {20, 1, 2}, {20, 5, 2}, {20, 6, 4}, {20, 23, 3}, {20, 18, 3}, {20, 17, 4}, {0, 23, 0}, {39, 23, 1},
            {1, 1, 0}, {38, 1, 1}, {2, 1, 2}, {5, 5, 0}, {34, 5, 1}, {34, 18, 1}, {33, 18, 3}, {40, 5, -1}, {5, 24, -1}
        };
        for (int[] d : due) {
            Check.due("26: " + d[0] + " " + d[1], x.dropAt(d[0], d[1]), d[2]);
        }
        x.resize(0, 400, 10);
        Check.due("26: rows decide", x.dropAt(200, 2), 2);
        Check.due("26: columns decide", x.dropAt(2, 3), 0);
        x.resize(0, 10, 400);
        Check.due("26: left before right", x.dropAt(4, 200), 4);
        Run y = cross();
        Check.due("26: another target", y.dropAt(21, 5), 10);
        Check.due("26: its right", y.dropAt(40, 15), 21);
        Check.due("26: a divider", y.dropAt(20, 5), -1);
        Check.due("26: nothing there", new Run().dropAt(5, 5), -1);
        Run z = Check.layout(12, "abcdefghijkl*");
        Check.due("26: pane 11 as a tab", z.dropAt(60, 30), 114);
        Check.due("26: its tab bar", z.dropAt(0, 0), 114);
    }

    private static void windows() {
        Run x = Check.layout(3, "a");
        x.floatAt(1, 5, 5, 10, 10);
        x.floatAt(2, 10, 10, 10, 10);
        Check.due("25: main", x.paneAt(4, 7), 0);
        Check.due("25: in front of it", x.paneAt(5, 7), 1);
        Check.due("25: the frontmost", x.paneAt(12, 12), 2);
        x.raise(1);
        Check.due("25: raised", x.paneAt(12, 12), 1);
        Check.due("26: raised", x.dropAt(14, 12), 11);
        x.show(1, false);
        Check.due("24: a window that shows nothing covers", x.kindAt(12, 12), 0);
        Check.due("25: no pane", x.paneAt(12, 12), -1);
        Check.due("26: no target", x.dropAt(12, 12), -1);
        Check.due("24: beside it", x.kindAt(15, 15), 1);
        x.takeAway(1);
        Check.due("24: gone", x.kindAt(12, 12), 1);
        x.move(2, -5, -5);
        Check.due("24: above the origin", x.kindAt(-5, -5), 2);
        Check.due("24: outside of main and inside", x.kindAt(-5, 4), 1);
        Check.due("24: outside", x.kindAt(-6, 4), 0);
    }

    /** "0 at the first or last column or row", "(in this order, if several are equal)", "4 times this distance is less". */
    private static void dropInSmallGroups() {
        int[][] sides = {{0}, {0, 1}, {0, 4, 1}, {0, 4, 4, 1}, {0, 0, 4, 1, 1}, {0, 0, 4, 4, 1, 1}};
        for (int columns = 1; columns <= 6; columns++) {
            Run x = Check.layout(2, "H(1:a,1:b)");
            x.setMinimum(0, columns, 1);
            x.setMinimum(1, 40, 1);
            x.resize(0, 41 + columns, 100);
            Check.due("7: columns", x.rectangle(0, 2), columns);
            for (int column = 0; column < columns; column++) {
                Check.due("26: column " + column + " of " + columns, x.dropAt(column, 50), sides[columns - 1][column]);
            }
        }
        int[][] rowSides = {{4, 3}, {4, 4, 3}, {4, 4, 4, 3}, {4, 2, 4, 3, 3}, {4, 2, 4, 4, 3, 3}};
        for (int rows = 2; rows <= 6; rows++) {
            Run x = Check.layout(2, "V(1:a,1:b)");
            x.setMinimum(0, 1, rows - 1);
            x.setMinimum(1, 1, 40);
            x.resize(0, 100, rows + 42);
            Check.due("7: rows", x.rectangle(0, 3), rows);
            for (int row = 0; row < rows; row++) {
                Check.due("26: row " + row + " of " + rows, x.dropAt(50, row), rowSides[rows - 2][row]);
            }
        }
    }

    /** "the target is the active pane of the group there. In the tab bar the side is 4." */
    private static void dropAtTabs() {
        Run x = Check.layout(4, "ab*c-d");
        x.resize(0, 30, 30);
        Check.due("25: the tab of a", x.paneAt(0, 0), 0);
        Check.due("26: not its pane, but the active one", x.dropAt(0, 0), 14);
        Check.due("26: the last tab", x.dropAt(29, 0), 14);
        Check.due("26: just below the tab bar", x.dropAt(15, 1), 12);
        Check.due("26: the content", x.dropAt(15, 15), 14);
        x.show(1, false);
        Check.due("26: the next active one", x.dropAt(0, 29), 30);
    }

    /** "in the frontmost window whose rectangle contains it": its first and last column and row, and those beside. */
    private static void edgesOfWindows() {
        Run x = Check.layout(2, "");
        int[][] corners = {{-400, -400, 400, 400}, {400, 400, 400, 400}, {0, 0, 10, 10}, {-5, 7, 10, 12}};
        for (int[] c : corners) {
            Run y = x.twin();
            y.floatAt(0, c[0], c[1], c[2], c[3]);
            int right = c[0] + c[2] - 1;
            int bottom = c[1] + c[3] - 1;
            Check.due("24: upper left", y.kindAt(c[0], c[1]), 2);
            Check.due("24: upper right", y.kindAt(right, c[1]), 2);
            Check.due("24: lower left", y.kindAt(c[0], bottom), 1);
            Check.due("24: lower right", y.kindAt(right, bottom), 1);
            Check.due("25: lower right", y.paneAt(right, bottom), 0);
            Check.due("26: lower right", y.dropAt(right, bottom), 1);
            int[][] outside = {
                {c[0] - 1, c[1]}, {c[0], c[1] - 1}, {right + 1, c[1]}, {right, c[1] - 1}, {c[0] - 1, bottom}, {c[0], bottom + 1},
                {right + 1, bottom}, {right, bottom + 1}
            };
            for (int[] o : outside) {
                Check.due("24: outside", y.kindAt(o[0], o[1]), 0);
                Check.due("25: outside", y.paneAt(o[0], o[1]), -1);
                Check.due("26: outside", y.dropAt(o[0], o[1]), -1);
            }
        }
    }

    private static void farPoints() {
        Run x = cross();
        x.floatAt(3, -400, -400, 400, 400);
        int[] far = {Integer.MIN_VALUE, Integer.MIN_VALUE + 400, -401, 5, Integer.MAX_VALUE - 400, Integer.MAX_VALUE};
        for (int column : far) {
            for (int row : far) {
                boolean main = column == 5 && row == 5;
                Check.due("24: " + column + " " + row, x.kindAt(column, row), main ? 1 : 0);
                Check.due("25: " + column + " " + row, x.paneAt(column, row), main ? 0 : -1);
                Check.due("26: " + column + " " + row, x.dropAt(column, row) != -1, main);
            }
        }
    }

    /** "a tab of w / m columns (rounded down), one after the other; the last one has all the others, too". */
    private static void tabsOfEachWidth() {
        for (int panes = 1; panes <= 12; panes++) {
            for (int columns = 10; columns <= 25; columns++) {
                Run x = Check.layout(12, "abcdefghijkl".substring(0, panes));
                x.resize(0, columns, 10);
                for (int column = 0; column < columns; column++) {
                    int each = columns / panes;
                    int due = panes - 1;
                    for (int k = panes - 2; k >= 0; k--) {
                        due = column < (k + 1) * each ? k : due;
                    }
                    Check.due("25: column " + column + " of " + columns + " for " + panes, x.paneAt(column, 0), due);
                }
            }
        }
        Run x = Check.layout(4, "a-bc-d");
        x.resize(0, 10, 10);
        Check.due("25: the first that is shown", x.paneAt(4, 0), 1);
        Check.due("25: the second that is shown", x.paneAt(5, 0), 3);
        x.show(1, false);
        Check.due("25: the only one has all", x.paneAt(0, 0) + 10 * x.paneAt(9, 0), 33);
        Run y = Check.layout(3, "");
        y.floatAt(0, -15, -15, 10, 10);
        y.dock(1, 0, 4);
        y.dock(2, 0, 4);
        int[] due = {0, 0, 0, 1, 1, 1, 2, 2, 2, 2};
        for (int column = 0; column < 10; column++) {
            Check.due("25: left of the origin, " + column, y.paneAt(column - 15, -15), due[column]);
        }
    }

    /** "0 nothing (no window, or one without a tree that is shown)": the window in front of another one, too. */
    private static void nothingShown() {
        Run x = Check.layout(3, "H(1:a-,1:b-)");
        Check.due("24: main without anything shown", x.kindAt(60, 30), 0);
        x.show(0, true);
        Check.due("24: main shown", x.kindAt(60, 30), 1);
        x.floatAt(2, 50, 20, 20, 20);
        x.show(2, false);
        Check.due("24: a window in front", x.kindAt(60, 30), 0);
        Check.due("25: a window in front", x.paneAt(60, 30), -1);
        Check.due("26: a window in front", x.dropAt(60, 30), -1);
        Check.due("24: beside it", x.kindAt(49, 30), 1);
        x.takeAway(2);
        Check.due("24: no window in front", x.kindAt(60, 30), 1);
        x.takeAway(0);
        x.takeAway(1);
        Check.due("24: no tree", x.kindAt(60, 30), 0);
    }
}
