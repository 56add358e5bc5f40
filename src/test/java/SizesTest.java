/** The sizes of promise 7, and promise 21: dragged dividers. */
public final class SizesTest {
    private static final Class<?> INDEX = IndexOutOfBoundsException.class;
    private static final Class<?> ARGUMENT = IllegalArgumentException.class;
    private static final Class<?> STATE = IllegalStateException.class;

    public static void main(String[] args) {
        shares();
        remainders();
        minimums();
        tooSmall();
        nested();
        elevenSplits();
        drag();
        dragLimits();
        dragUp();
        dragHidden();
        dragRefused();
        Check.finish();
    }

    private static String columns(DockLayout x, int panes) {
        StringBuilder all = new StringBuilder();
        for (int pane = 0; pane < panes; pane++) {
            all.append(pane == 0 ? "" : " ").append(x.rectangle(pane, 0)).append('+').append(x.rectangle(pane, 2));
        }
        return all.toString();
    }

    private static DockLayout row(String tree, int columns, int... minimumWidths) {
        DockLayout x = Check.layout(minimumWidths.length, tree);
        for (int pane = 0; pane < minimumWidths.length; pane++) {
            x.setMinimum(pane, minimumWidths[pane], 1);
        }
        x.resize(0, columns, 60);
        return x;
    }

    private static void shares() {
        Check.due("7: by weights", columns(row("H(1:a,2:b,7:c)", 102, 1, 1, 1), 3), "0+10 11+20 32+70");
        DockLayout x = Check.layout(3, "V(1:a,2:b,7:c)");
        x.resize(0, 50, 102);
        Check.due("7: vertical, a", Check.rectangle(x, 0), "0 0 50 10");
        Check.due("7: vertical, b", Check.rectangle(x, 1), "0 11 50 20");
        Check.due("7: vertical, c", Check.rectangle(x, 2), "0 32 50 70");
        Check.due("7: the greatest weights", columns(row("H(1000000:a,1000000:b,999999:c)", 402 - 2, 1, 1, 1), 3),
            "0+133 134+133 268+132");
    }

    private static void remainders() {
        // 98 columns by weights 3, 3, 1: 42, 42, 14 without a remainder; 99: 42 3/7, 42 3/7, 14 1/7.
        Check.due("7: none is left", columns(row("H(3:a,3:b,1:c)", 100, 1, 1, 1), 3), "0+42 43+42 86+14");
        Check.due("7: the first of equal ones", columns(row("H(3:a,3:b,1:c)", 101, 1, 1, 1), 3), "0+43 44+42 87+14");
        // 100 by 1, 3, 3: 14 2/7, 42 6/7, 42 6/7.
        Check.due("7: the greatest ones", columns(row("H(1:a,3:b,3:c)", 102, 1, 1, 1), 3), "0+14 15+43 59+43");
    }

    private static void minimums() {
        // 100 by 1, 1, 8: 10, 10, 80; a gets 30, then 70 by 1, 8: 7, 62 (and one is left: 7 7/9, 62 2/9).
        Check.due("7: one is too small", columns(row("H(1:a,1:b,8:c)", 102, 30, 5, 5), 3), "0+30 31+8 40+62");
        // then b is too small as well: it gets 9, and c the rest.
        Check.due("7: then another one", columns(row("H(1:a,1:b,8:c)", 102, 30, 9, 5), 3), "0+30 31+9 41+61");
        Check.due("7: a share that is just enough", columns(row("H(1:a,1:b,8:c)", 102, 10, 10, 40), 3), "0+10 11+10 22+80");
        // 11 by 1, 1, 1: 3 2/3 each; the share of a is its minimum size, so that it is open still.
        Check.due("7: a share that is just enough, with a remainder", columns(row("H(1:a,1:b,1:c)", 13, 3, 1, 1), 3),
            "0+4 5+4 10+3");
        // 10 by 1, 1, 1 with minimum sizes 4, 1, 1: a gets 4, 6 are left.
        Check.due("7: a share without its remainder", columns(row("H(1:a,1:b,1:c)", 12, 4, 1, 1), 3), "0+4 5+3 9+3");
    }

    private static void tooSmall() {
        Check.due("7: just the minimum sizes", columns(row("H(9:a,1:b)", 21, 8, 12), 2), "0+8 9+12");
        Check.due("7: one too few", columns(row("H(9:a,1:b)", 20, 8, 12), 2), "0+8 9+11");
        Check.due("7: nothing is left", columns(row("H(9:a,1:b,1:c)", 22, 20, 12, 3), 3), "0+20 21+0 22+0");
        DockLayout x = Check.layout(12, "H(1:a,1:b,1:c,1:d,1:e,1:f,1:g,1:h,1:i,1:j,1:k,1:l)");
        x.resize(0, 10, 60);
        Check.due("7: more dividers than columns", Check.rectangle(x, 11), "11 0 0 60");
        Check.due("7: no columns at all", Check.rectangle(x, 0), "0 0 0 60");
    }

    private static void nested() {
        DockLayout x = Check.layout(4, "H(1:a,1:H(1:b,1:V(1:c,1:d)))");
        x.resize(0, 41, 21);
        Check.due("7: outer", Check.rectangle(x, 0), "0 0 20 21");
        Check.due("7: inner", Check.rectangle(x, 1), "21 0 10 21");
        Check.due("7: innermost, above", Check.rectangle(x, 2), "32 0 9 10");
        Check.due("7: innermost, below", Check.rectangle(x, 3), "32 11 9 10");
        x.show(2, false);
        x.show(3, false);
        Check.due("7: a split that is not shown", Check.rectangle(x, 1), "21 0 20 21");
        x.show(0, false);
        x.show(1, false);
        Check.due("7: nothing is shown", Check.rectangle(x, 1), "-1 -1 -1 -1");
    }

    private static void elevenSplits() {
        String tree = "H(1:a,1:V(1:b,1:H(1:c,1:V(1:d,1:H(1:e,1:V(1:f,1:H(1:g,1:V(1:h,1:H(1:i,1:V(1:j,1:H(1:k,1:l)))))))))))";
        DockLayout x = Check.layout(12, tree);
        for (int pane = 0; pane < 12; pane++) {
            x.setMinimum(pane, 1, 1);
        }
        x.resize(0, 255, 190);
        Check.due("7: pane 0", Check.rectangle(x, 0), "0 0 127 190");
        Check.due("7: pane 1", Check.rectangle(x, 1), "128 0 127 95");
        Check.due("7: pane 2", Check.rectangle(x, 2), "128 96 63 94");
        Check.due("7: pane 10", Check.rectangle(x, 10), "248 186 3 4");
        Check.due("7: pane 11", Check.rectangle(x, 11), "252 186 3 4");
        Check.due("24: a divider", x.kindAt(251, 187), 3);
        Check.due("25: pane 10", x.paneAt(250, 189), 10);
        Check.due("25: pane 11", x.paneAt(252, 189), 11);
        Check.due("26: pane 11", x.dropAt(254, 188), 111);
        Check.due("21: the outermost divider", x.drag(11, 0, 1), 1);
        Check.due("21: where it is", x.rectangle(10, 2) + " " + x.rectangle(11, 2), "4 2");
        x.dock(11, 0, 2);
        Check.due("14: with all nodes in use", x.pane(11, 8), 1);
        Check.due("7: pane 11 then", Check.rectangle(x, 11), "0 0 127 95");
    }

    private static void drag() {
        DockLayout x = Check.layout(3, "H(1:a,1:b,1:c)");
        x.resize(0, 92, 60);
        Check.due("21: right of the pane", x.drag(0, 1, 7), 7);
        Check.due("21: weights", Check.tree(x, 0), "H(3700:a*,2300:b*,3000:c*)");
        Check.due("21: columns", columns(x, 3), "0+37 38+23 62+30");
        Check.due("21: left of the pane", x.drag(2, 0, -3), -3);
        Check.due("21: columns again", columns(x, 3), "0+37 38+20 59+33");
        Check.due("21: undoable", x.undo(), 4);
        Check.due("21: undone", columns(x, 3), "0+37 38+23 62+30");
        Check.due("21: by nothing", x.drag(1, 0, 0), 0);
        Check.due("21: undoable even so", x.undo(), 4);
        DockLayout y = Check.layout(2, "V(5:a,5:b)");
        Check.due("21: below", y.drag(0, 3, 4), 4);
        Check.due("21: rows", y.rectangle(0, 3) + " " + y.rectangle(1, 3), "34 25");
        Check.due("21: above", y.drag(1, 2, -5), -5);
        Check.due("21: rows again", y.rectangle(0, 3) + " " + y.rectangle(1, 3), "29 30");
        Check.due("21: weights by sizes", Check.tree(y, 0), "V(2900:a*,3000:b*)");
        DockLayout z = Check.layout(2, "V(5:a,5:b)");
        z.drag(0, 3, 0);
        Check.due("21: weights change without a move", Check.tree(z, 0), "V(3000:a*,2900:b*)");
    }

    private static void dragLimits() {
        DockLayout x = Check.layout(3, "H(1:a,1:b,1:c)");
        x.resize(0, 92, 60);
        Check.due("21: as far as b's minimum", x.drag(0, 1, 400), 25);
        Check.due("21: as far as a's minimum", x.drag(0, 1, -400), -50);
        Check.due("21: columns", columns(x, 3), "0+5 6+55 62+30");
        Check.due("21: away from a's minimum", x.drag(0, 1, 2), 2);
        Check.due("21: back to a's minimum", x.drag(1, 0, -3), -2);
        x.resize(0, 12, 60);
        Check.due("21: below the minimum", columns(x, 3), "0+5 6+5 12+0");
        Check.due("21: c is too small already", x.drag(1, 1, -5), 0);
        Check.due("21: weights at least 1", Check.tree(x, 0), "H(500:a*,500:b*,1:c*)");
        Check.due("21: a and b just fit", x.drag(0, 1, 3), 0);
        DockLayout y = Check.layout(2, "V(1:a,1:b)");
        y.setMinimum(0, 1, 39);
        y.resize(0, 10, 30);
        Check.due("21: the first is too small", y.drag(1, 2, 1), 0);
    }

    private static void dragUp() {
        String tree = "H(1:V(1:a,1:b),1:V(1:H(1:c,1:d),1:e))";
        DockLayout x = Check.layout(5, tree);
        x.resize(0, 81, 81);
        Check.due("21: from a, the outer divider", x.drag(0, 1, 2), 2);
        Check.due("21: outer weights", Check.tree(x, 0), "H(4200:V(1:a*,1:b*),3800:V(1:H(1:c*,1:d*),1:e*))");
        Check.due("21: from c to the right, the inner one", x.drag(2, 1, 1), 1);
        Check.due("21: from c to the left, the outer one", x.drag(2, 0, -2), -2);
        Check.due("21: tree", Check.tree(x, 0), "H(4000:V(1:a*,1:b*),4000:V(1:H(2000:c*,1700:d*),1:e*))");
        Check.due("21: from d down", x.drag(3, 3, 5), 5);
        Check.due("21: tree again", Check.tree(x, 0), "H(4000:V(1:a*,1:b*),4000:V(4500:H(2000:c*,1700:d*),3500:e*))");
        Check.refused("21: nothing right of d", x, STATE, () -> x.drag(3, 1, 1));
        Check.refused("21: nothing above d", x, STATE, () -> x.drag(3, 2, 1));
        DockLayout y = Check.layout(3, "H(1:a,1:H(1:b,1:c))");
        Check.due("21: a split of the same direction above", y.drag(1, 0, 3), 3);
        Check.due("21: its weights", Check.tree(y, 0), "H(6300:a*,5600:H(1:b*,1:c*))");
    }

    private static void dragHidden() {
        DockLayout x = Check.layout(6, "H(10:a,3:b-,20:c,1:d-,1000000:e-,30:f)");
        x.resize(0, 62, 60);
        Check.due("21: the nearest one that is shown", x.drag(2, 0, 4), 4);
        Check.due("21: hidden ones are scaled", Check.tree(x, 0), "H(1400:a*,300:b-,1600:c*,100:d-,1000000:e-,3000:f*)");
        x.resize(0, 14, 60);
        x.setMinimum(0, 1, 1);
        Check.due("21: over the hidden ones", x.drag(5, 0, 0), 0);
        Check.due("21: rounded down, at least 1", Check.tree(x, 0), "H(200:a*,60:b-,500:c*,20:d-,200000:e-,500:f*)");
        DockLayout first = Check.layout(3, "H(8:a-,2:b,2:c)");
        first.resize(0, 41, 60);
        first.drag(1, 1, 0);
        Check.due("21: a hidden first child", Check.tree(first, 0), "H(8000:a-,2000:b*,2000:c*)");
        DockLayout y = Check.layout(3, "H(1000000:a,1:b-,1000000:c)");
        y.drag(0, 1, 1);
        Check.due("21: at least 1", y.pane(1, 7), 1);
        DockLayout z = Check.layout(4, "H(1:a,7:b-,5:c,1:d)");
        z.resize(0, 12, 60);
        z.show(3, false);
        z.drag(0, 1, 0);
        Check.due("21: 7 * 1100 / 6, rounded down", z.pane(1, 7), 1283);
    }

    private static void dragRefused() {
        DockLayout x = Check.layout(5, "H(1:a,1:b-,1:V(1:c-,1:d))");
        Check.refused("21: no such pane comes first", x, INDEX, () -> x.drag(5, 4, 0));
        Check.refused("21: side before placed", x, ARGUMENT, () -> x.drag(4, 4, 0));
        Check.refused("21: side -1", x, ARGUMENT, () -> x.drag(0, -1, 0));
        Check.refused("21: by 401", x, ARGUMENT, () -> x.drag(0, 1, 401));
        Check.refused("21: by -401", x, ARGUMENT, () -> x.drag(0, 1, -401));
        Check.refused("21: not placed", x, STATE, () -> x.drag(4, 0, 0));
        Check.refused("21: not shown", x, STATE, () -> x.drag(1, 0, 0));
        Check.refused("21: nothing on this side", x, STATE, () -> x.drag(0, 0, 0));
        Check.refused("21: nothing shown on this side", x, STATE, () -> x.drag(3, 2, 0));
        x.show(0, false);
        Check.refused("21: nothing shown at all on this side", x, STATE, () -> x.drag(3, 0, 0));
        x.floatAt(4, 0, 0, 10, 10);
        Check.refused("21: the root", x, STATE, () -> x.drag(4, 0, 0));
    }
}
