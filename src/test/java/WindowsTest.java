/** Promises 9 to 13: windows. */
public final class WindowsTest {
    public static void main(String[] args) {
        resize();
        move();
        raise();
        window();
        floating();
        Check.finish();
    }

    private static Run threeWindows() {
        Run x = Check.layout(6, "a-");
        x.floatAt(1, 1, 2, 20, 21);
        x.floatAt(2, 3, 4, 22, 23);
        x.floatAt(3, 5, 6, 24, 25);
        return x;
    }

    private static void resize() {
        Run x = threeWindows();
        x.dock(4, 2, 1);
        Check.due("9: main", x.resize(0, 10, 400), 1);
        Check.due("9: columns", x.window(0, 2), 10);
        Check.due("9: rows", x.window(0, 3), 400);
        Check.due("9: floating", x.resize(2, 400, 10), 2);
        Check.due("9: rectangle", Check.rectangle(x, 2), "3 4 200 10");
        Check.due("9: undoable", x.undo(), 4);
        Check.due("9: undone", Check.rectangle(x, 2), "3 4 11 23");
        Check.due("9: undone for main, too", x.undo(), 3);
        Check.due("9: main as before", x.window(0, 2), 120);
        Check.refused("9: no such window comes first", x, Check.INDEX, () -> x.resize(4, 9, 9));
        Check.refused("9: window 5", x, Check.INDEX, () -> x.resize(5, 10, 10));
        Check.refused("9: window -1", x, Check.INDEX, () -> x.resize(-1, 10, 10));
        int[][] wrong = {{9, 10}, {401, 10}, {10, 9}, {10, 401}};
        for (int[] w : wrong) {
            Check.refused("9: " + w[0] + " " + w[1], x, Check.ARGUMENT, () -> x.resize(0, w[0], w[1]));
        }
        x.takeAway(0);
        Check.due("9: no tree", x.resize(0, 50, 50), 0);
    }

    private static void move() {
        Run x = threeWindows();
        Check.due("10: previous", x.move(2, -400, 400), 3);
        Check.due("10: previous again", x.move(2, 400, -400), -400);
        Check.due("10: column", x.window(2, 0), 400);
        Check.due("10: row", x.window(2, 1), -400);
        Check.due("10: rectangle", Check.rectangle(x, 2), "400 -400 22 23");
        Check.due("10: order stays", Check.floating(x), "123");
        x.undo();
        Check.due("10: undone", Check.rectangle(x, 2), "-400 400 22 23");
        Check.refused("10: no such window comes first", x, Check.INDEX, () -> x.move(4, 999, 0));
        Check.refused("10: range before main", x, Check.ARGUMENT, () -> x.move(0, 401, 0));
        Check.refused("10: main", x, Check.STATE, () -> x.move(0, 0, 0));
        int[][] wrong = {{401, 0}, {-401, 0}, {0, 401}, {0, -401}};
        for (int[] w : wrong) {
            Check.refused("10: " + w[0] + " " + w[1], x, Check.ARGUMENT, () -> x.move(1, w[0], w[1]));
        }
    }

    private static void raise() {
        Run x = threeWindows();
        Check.due("11: first", x.raise(1), 0);
        Check.due("11: order", Check.floating(x), "231");
        Check.due("11: middle", x.raise(3), 1);
        Check.due("11: order again", Check.floating(x), "213");
        Check.due("11: in front already", x.raise(3), 2);
        Check.due("11: order still", Check.floating(x), "213");
        Check.due("11: undoable", x.undo(), 4);
        x.undo();
        Check.due("11: undone", Check.floating(x), "231");
        Check.due("11: focus stays", Check.focus(x), "dcba");
        Check.refused("11: no such window", x, Check.INDEX, () -> x.raise(4));
        Check.refused("11: window -1", x, Check.INDEX, () -> x.raise(-1));
        Check.refused("11: main", x, Check.STATE, () -> x.raise(0));
    }

    private static void window() {
        Run x = threeWindows();
        x.raise(1);
        int[][] due = {
            {0, 0, 120, 60, 1, 0, 0, -1}, {1, 2, 20, 21, 1, 5, 5, 2},
            {3, 4, 22, 23, 1, 5, 5, 0}, {5, 6, 24, 25, 1, 5, 5, 1}
        };
        for (int window = 0; window < 4; window++) {
            for (int what = 0; what <= 7; what++) {
                Check.due("12: window " + window + " " + what, x.window(window, what), due[window][what]);
            }
        }
        Check.refused("12: no such window comes first", x, Check.INDEX, () -> x.window(4, 8));
        Check.refused("12: window -1", x, Check.INDEX, () -> x.window(-1, 0));
        Check.refused("12: window 5", x, Check.INDEX, () -> x.window(5, 0));
        Check.refused("12: what 8", x, Check.ARGUMENT, () -> x.window(0, 8));
        Check.refused("12: what -1", x, Check.ARGUMENT, () -> x.window(0, -1));
        minimums();
    }

    private static void minimums() {
        Run x = Check.layout(5, "H(1:ab,1:V(1:c,1:de-))");
        x.setMinimum(0, 7, 3);
        x.setMinimum(1, 6, 9);
        x.setMinimum(2, 11, 2);
        x.setMinimum(3, 4, 20);
        x.setMinimum(4, 40, 40);
        Check.due("12: minimum width", x.window(0, 5), 7 + 1 + 11);
        Check.due("12: minimum height", x.window(0, 6), 3 + 1 + 21);
        x.show(2, false);
        Check.due("12: a child that is not shown, width", x.window(0, 5), 7 + 1 + 4);
        Check.due("12: a child that is not shown, height", x.window(0, 6), 21);
        x.show(1, false);
        x.show(3, false);
        Check.due("12: one child, width", x.window(0, 5), 7);
        Check.due("12: one child, height", x.window(0, 6), 4);
        x.show(0, false);
        Check.due("12: nothing shown, width", x.window(0, 5), 0);
        Check.due("12: nothing shown, height", x.window(0, 6), 0);
        Check.due("12: placed all the same", x.window(0, 4), 5);
    }

    private static void floating() {
        Run x = threeWindows();
        Check.due("13: order", Check.floating(x), "123");
        Check.due("13: negative", x.floating(-1), -1);
        Check.due("13: behind the last", x.floating(3), -1);
        Check.due("13: far", x.floating(Integer.MAX_VALUE), -1);
        Check.due("13: far below", x.floating(Integer.MIN_VALUE), -1);
        x.takeAway(2);
        Check.due("13: one is gone", Check.floating(x), "13");
        x.floatAt(4, 0, 0, 10, 10);
        Check.due("13: the lowest number, in front", Check.floating(x), "132");
    }
}
