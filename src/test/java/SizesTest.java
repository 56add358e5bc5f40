import java.util.Arrays;

/** The sizes of promise 7, and promise 21: dragged dividers. */
public final class SizesTest {
    public static void main(String[] args) {
        groupMinimum();
        splitMinimum();
        rootRectangle();
        dividers();
        roomAtLeastZero();
        sumOfMinimums();
        closedGetNoRest();
        oneRow();
        shares();
        remainders();
        minimums();
        tooSmall();
        nested();
        elevenSplits();
        elevenSplitsByDocking();
        restsBesideEachOther();
        drag();
        dragLimits();
        dragUp();
        dragBySize();
        dragTooSmall();
        dragNearest();
        dragHidden();
        dragHiddenAtTheEnds();
        dragRefused();
        Check.finish();
    }

    private static String columns(Run x, int panes) {
        StringBuilder all = new StringBuilder();
        for (int pane = 0; pane < panes; pane++) {
            all.append(pane == 0 ? "" : " ").append(x.rectangle(pane, 0)).append('+').append(x.rectangle(pane, 2));
        }
        return all.toString();
    }

    private static Run row(String tree, int columns, int... minimumWidths) {
        Run x = Check.layout(minimumWidths.length, tree);
        for (int pane = 0; pane < minimumWidths.length; pane++) {
            x.setMinimum(pane, minimumWidths[pane], 1);
        }
        x.resize(0, columns, 60);
        return x;
    }

    /** "the greatest minimum width of its panes that are shown, ... the greatest minimum height of these, plus 1". */
    private static void groupMinimum() {
        Run x = Check.layout(4, "abcd-");
        x.setMinimum(0, 9, 2);
        x.setMinimum(1, 3, 8);
        x.setMinimum(2, 9, 8);
        x.setMinimum(3, 40, 40);
        Check.due("12: width", x.window(0, 5), 9);
        Check.due("12: height, plus 1", x.window(0, 6), 9);
        x.show(2, false);
        Check.due("12: width, by one pane", x.window(0, 5), 9);
        Check.due("12: height, by another one", x.window(0, 6), 9);
        x.show(0, false);
        Check.due("12: width of what is shown", x.window(0, 5), 3);
        x.show(3, true);
        Check.due("12: the greatest width", x.window(0, 5), 40);
        Check.due("12: the greatest height", x.window(0, 6), 41);
        x.show(1, false);
        x.show(3, false);
        Check.due("12: nothing is shown, width", x.window(0, 5), 0);
        Check.due("12: nothing is shown, height", x.window(0, 6), 0);
    }

    /** "the sum ... of its children that are shown, plus the number of these, minus 1; across ... the greatest". */
    private static void splitMinimum() {
        Run x = Check.layout(3, "H(1:a,1:b,1:c)");
        x.setMinimum(1, 7, 11);
        Check.due("12: three, along", x.window(0, 5), 5 + 7 + 5 + 2);
        Check.due("12: three, across", x.window(0, 6), 12);
        x.show(1, false);
        Check.due("12: two, along", x.window(0, 5), 5 + 5 + 1);
        Check.due("12: two, across", x.window(0, 6), 5);
        x.show(0, false);
        Check.due("12: one, along", x.window(0, 5), 5);
        x.show(2, false);
        Check.due("12: none, along", x.window(0, 5), 0);
        Check.due("12: none, across", x.window(0, 6), 0);
        Run y = Check.layout(3, "V(1:a,1:b,1:c)");
        y.setMinimum(1, 7, 11);
        Check.due("12: vertical, along", y.window(0, 6), 5 + 12 + 5 + 2);
        Check.due("12: vertical, across", y.window(0, 5), 7);
        Run all = Check.layout(12, "H(1:a,1:b,1:c,1:d,1:e,1:f,1:g,1:h,1:i,1:j,1:k,1:l)");
        Check.due("12: twelve", all.window(0, 5), 12 * 5 + 11);
        for (int pane = 0; pane < 12; pane++) {
            all.setMinimum(pane, 40, 40);
        }
        Check.due("12: more than any window", all.window(0, 5), 12 * 40 + 11);
    }

    /** "The root of a tree, if it is shown, has the rectangle of the window." */
    private static void rootRectangle() {
        Run x = Check.layout(2, "a");
        x.resize(0, 10, 10);
        Check.due("7: the least", Check.rectangle(x, 0), "0 0 10 10");
        x.resize(0, 400, 400);
        Check.due("7: the greatest", Check.rectangle(x, 0), "0 0 400 400");
        x.setMinimum(0, 40, 40);
        x.resize(0, 10, 10);
        Check.due("7: less than its minimum size", Check.rectangle(x, 0), "0 0 10 10");
        x.show(0, false);
        Check.due("7: not shown", Check.rectangle(x, 0), "-1 -1 -1 -1");
        x.floatAt(1, -400, -400, 400, 10);
        Check.due("7: far left and above", Check.rectangle(x, 1), "-400 -400 400 10");
        x.move(1, 400, 400);
        Check.due("7: far right and below", Check.rectangle(x, 1), "400 400 400 10");
        x.move(1, -1, -1);
        Check.due("7: a column of -1 is no NONE", Check.rectangle(x, 1), "-1 -1 400 10");
    }

    /** "with one column or row between any two of them (a divider)": none for a child that is not shown. */
    private static void dividers() {
        Run x = row("H(1:a,1:b-,1:c,1:d-)", 41, 1, 1, 1, 1);
        Check.due("7: one divider", x.rectangle(0, 2) + " " + x.rectangle(2, 0) + " " + x.rectangle(2, 2), "20 21 20");
        Check.due("24: there", x.kindAt(20, 5), 3);
        x.show(2, false);
        Check.due("7: no divider", Check.rectangle(x, 0), "0 0 41 60");
        Check.due("24: no divider there", x.kindAt(20, 5), 1);
        Run first = row("H(1:a-,1:b,1:c)", 41, 1, 1, 1);
        Check.due("7: none before the first that is shown", first.rectangle(1, 0), 0);
    }

    /** "let n be the size of the split minus the number of dividers, but at least 0". */
    private static void roomAtLeastZero() {
        String twelve = "H(1:a,1:b,1:c,1:d,1:e,1:f,1:g,1:h,1:i,1:j,1:k,1:l)";
        String[] due = {
            "0+1 2+0 3+0 4+0 5+0 6+0 7+0 8+0 9+0 10+0", "0+0 1+0 2+0 3+0 4+0 5+0 6+0 7+0 8+0 9+0 10+0",
            "0+0 1+0 2+0 3+0 4+0 5+0 6+0 7+0 8+0 9+0 10+0 11+0"
        };
        for (int panes = 10; panes <= 12; panes++) {
            int[] least = new int[panes];
            Arrays.fill(least, 1);
            String tree = twelve.substring(0, 2 + 4 * panes - 1) + ")";
            Check.due("7: " + panes + " in ten columns", columns(row(tree, 10, least), panes), due[panes - 10]);
        }
        Run x = Check.layout(3, "H(1:a,1:V(1:b,1:c))");
        x.setMinimum(0, 40, 1);
        x.resize(0, 20, 10);
        Check.due("7: a split without columns", Check.rectangle(x, 1), "20 0 0 5");
        Check.due("7: its second child", Check.rectangle(x, 2), "20 6 0 4");
        Run y = Check.layout(3, "H(1:a,1:H(1:b,1:c))");
        y.setMinimum(0, 40, 1);
        y.resize(0, 20, 10);
        Check.due("7: along a split without columns", Check.rectangle(y, 2), "21 0 0 10");
    }

    /** "If the sum of the minimum sizes ... is at least n, each ... gets its minimum size, but at most what is left of n." */
    private static void sumOfMinimums() {
        int[] columns = {12, 13, 14, 19, 20, 21, 22};
        String[] due = {
            "0+5 6+5 12+0", "0+5 6+6 13+0", "0+5 6+6 13+1", "0+5 6+6 13+6", "0+5 6+6 13+7", "0+6 7+6 14+7", "0+7 8+6 15+7"
        };
        for (int k = 0; k < columns.length; k++) {
            Check.due("7: " + columns[k] + " columns", columns(row("H(900:a,1:b,1:c)", columns[k], 5, 6, 7), 3), due[k]);
        }
        Check.due("7: ten columns", columns(row("H(900:a,1:b,1:c)", 10, 5, 6, 7), 3), "0+5 6+3 10+0");
        Check.due("7: the first one alone", columns(row("H(1:a,1:b,9:c)", 10, 9, 6, 7), 3), "0+8 9+0 10+0");
        Run y = Check.layout(2, "V(1:a,1:b)");
        y.resize(0, 50, 11);
        Check.due("7: rows, just enough", y.rectangle(0, 3) + " " + y.rectangle(1, 3), "5 5");
        y.resize(0, 50, 10);
        Check.due("7: rows, one too few", y.rectangle(0, 3) + " " + y.rectangle(1, 3), "5 4");
    }

    /** "what is left of r then is given, one each, to the open children": not to those with their minimum sizes. */
    private static void closedGetNoRest() {
        // 11 by 1, 1, 1: 3 2/3 each, a gets 4; 7 by 1, 1: 3 1/2 each, and the first open one gets 1 more.
        Check.due("7: the first is not open", columns(row("H(1:a,1:b,1:c)", 13, 4, 1, 1), 3), "0+4 5+4 10+3");
        // The last gets 4; the first and the second are open.
        Check.due("7: the last is not open", columns(row("H(1:a,1:b,1:c)", 13, 1, 1, 4), 3), "0+4 5+3 9+4");
        // 14 by 1 each: 2 4/5 each; four of five get 1 more.
        Check.due("7: one each", columns(row("H(1:a,1:b,1:c,1:d,1:e)", 18, 1, 1, 1, 1, 1), 5), "0+3 4+3 8+3 12+3 16+2");
        // 11 by 1, 2, 4: 1 4/7, 3 1/7, 6 2/7.
        Check.due("7: the greatest remainder, not share", columns(row("H(1:a,2:b,4:c)", 13, 1, 1, 1), 3), "0+2 3+3 7+6");
    }

    /** "The first row of the rectangle of a group is its tab bar, the others are its content." */
    private static void oneRow() {
        Run x = Check.layout(3, "V(1:a,1:b,1:c)");
        x.resize(0, 10, 10);
        Check.due("7: five, three and no rows", x.rectangle(0, 3) + " " + x.rectangle(1, 3) + " " + x.rectangle(2, 3), "5 3 0");
        x.setMinimum(0, 1, 6);
        Check.due("7: seven, one and no rows", x.rectangle(0, 3) + " " + x.rectangle(1, 3) + " " + x.rectangle(2, 3), "7 1 0");
        int[] kinds = {2, 1, 1, 1, 1, 1, 1, 3, 2, 3, 0};
        for (int row = 0; row < kinds.length; row++) {
            Check.due("24: row " + row, x.kindAt(3, row), kinds[row]);
        }
        Check.due("25: a tab bar without content", x.paneAt(3, 8), 1);
        Check.due("26: a tab bar without content", x.dropAt(3, 8), 14);
    }

    private static void shares() {
        Check.due("7: by weights", columns(row("H(1:a,2:b,7:c)", 102, 1, 1, 1), 3), "0+10 11+20 32+70");
        Run x = Check.layout(3, "V(1:a,2:b,7:c)");
        x.resize(0, 50, 102);
        Check.due("7: vertical, a", Check.rectangle(x, 0), "0 0 50 10");
        Check.due("7: vertical, b", Check.rectangle(x, 1), "0 11 50 20");
        Check.due("7: vertical, c", Check.rectangle(x, 2), "0 32 50 70");
        Check.due("7: the greatest weights", columns(row("H(1000000:a,1000000:b,999999:c)", 402 - 2, 1, 1, 1), 3),
            "0+133 134+133 268+132");
    }

    private static void remainders() {
        // 98 columns by weights 3, 3, 1: 42, 42, 14 without a remainder; 99: 42 3/7, 42 3/7, 14 1/7.
        Check.due("7: none is left", columns(row("H(3:a,3:b,1:c)", 100, 1, 1, 1), 3), "0+42 43+42 86+14");
        Check.due("7: the first of equal ones", columns(row("H(3:a,3:b,1:c)", 101, 1, 1, 1), 3), "0+43 44+42 87+14");
        // 100 by 1, 3, 3: 14 2/7, 42 6/7, 42 6/7.
        Check.due("7: the greatest ones", columns(row("H(1:a,3:b,3:c)", 102, 1, 1, 1), 3), "0+14 15+43 59+43");
    }

    private static void minimums() {
        // 100 by 1, 1, 8: 10, 10, 80; a gets 30, then 70 by 1, 8: 7, 62 (and one is left: 7 7/9, 62 2/9).
        Check.due("7: one is too small", columns(row("H(1:a,1:b,8:c)", 102, 30, 5, 5), 3), "0+30 31+8 40+62");
        // then b is too small as well: it gets 9, and c the rest.
        Check.due("7: then another one", columns(row("H(1:a,1:b,8:c)", 102, 30, 9, 5), 3), "0+30 31+9 41+61");
        Check.due("7: a share that is just enough", columns(row("H(1:a,1:b,8:c)", 102, 10, 10, 40), 3), "0+10 11+10 22+80");
        // 11 by 1, 1, 1: 3 2/3 each; the share of a is its minimum size, so that it is open still.
        Check.due("7: a share that is just enough, with a remainder", columns(row("H(1:a,1:b,1:c)", 13, 3, 1, 1), 3),
            "0+4 5+4 10+3");
        // 10 by 1, 1, 1 with minimum sizes 4, 1, 1: a gets 4, 6 are left.
        Check.due("7: a share without its remainder", columns(row("H(1:a,1:b,1:c)", 12, 4, 1, 1), 3), "0+4 5+3 9+3");
    }

    private static void tooSmall() {
        Check.due("7: just the minimum sizes", columns(row("H(9:a,1:b)", 21, 8, 12), 2), "0+8 9+12");
        Check.due("7: one too few", columns(row("H(9:a,1:b)", 20, 8, 12), 2), "0+8 9+11");
        Check.due("7: nothing is left", columns(row("H(9:a,1:b,1:c)", 22, 20, 12, 3), 3), "0+20 21+0 22+0");
        Run x = Check.layout(12, "H(1:a,1:b,1:c,1:d,1:e,1:f,1:g,1:h,1:i,1:j,1:k,1:l)");
        x.resize(0, 10, 60);
        Check.due("7: more dividers than columns", Check.rectangle(x, 11), "11 0 0 60");
        Check.due("7: no columns at all", Check.rectangle(x, 0), "0 0 0 60");
    }

    private static void nested() {
        Run x = Check.layout(4, "H(1:a,1:H(1:b,1:V(1:c,1:d)))");
        x.resize(0, 41, 21);
        Check.due("7: outer", Check.rectangle(x, 0), "0 0 20 21");
        Check.due("7: inner", Check.rectangle(x, 1), "21 0 10 21");
        Check.due("7: innermost, above", Check.rectangle(x, 2), "32 0 9 10");
        Check.due("7: innermost, below", Check.rectangle(x, 3), "32 11 9 10");
        x.show(2, false);
        x.show(3, false);
        Check.due("7: a split that is not shown", Check.rectangle(x, 1), "21 0 20 21");
        x.show(0, false);
        x.show(1, false);
        Check.due("7: nothing is shown", Check.rectangle(x, 1), "-1 -1 -1 -1");
    }

    private static void elevenSplits() {
        String tree = "H(1:a,1:V(1:b,1:H(1:c,1:V(1:d,1:H(1:e,1:V(1:f,1:H(1:g,1:V(1:h,1:H(1:i,1:V(1:j,1:H(1:k,1:l)))))))))))";
        Run x = Check.layout(12, tree);
        for (int pane = 0; pane < 12; pane++) {
            x.setMinimum(pane, 1, 1);
        }
        x.resize(0, 255, 190);
        Check.due("7: pane 0", Check.rectangle(x, 0), "0 0 127 190");
        Check.due("7: pane 1", Check.rectangle(x, 1), "128 0 127 95");
        Check.due("7: pane 2", Check.rectangle(x, 2), "128 96 63 94");
        Check.due("7: pane 10", Check.rectangle(x, 10), "248 186 3 4");
        Check.due("7: pane 11", Check.rectangle(x, 11), "252 186 3 4");
        Check.due("24: a divider", x.kindAt(251, 187), 3);
        Check.due("25: pane 10", x.paneAt(250, 189), 10);
        Check.due("25: pane 11", x.paneAt(252, 189), 11);
        Check.due("26: pane 11", x.dropAt(254, 188), 111);
        Check.due("21: the outermost divider", x.drag(11, 0, 1), 1);
        Check.due("21: where it is", x.rectangle(10, 2) + " " + x.rectangle(11, 2), "4 2");
        x.dock(11, 0, 2);
        Check.due("14: with all nodes in use", x.pane(11, 8), 1);
        Check.due("7: pane 11 then", Check.rectangle(x, 11), "0 0 127 95");
    }

    /** The same tree, when its splits come one after the other: the first group is older than all of them. */
    private static void elevenSplitsByDocking() {
        Run x = new Run();
        for (int pane = 0; pane < 12; pane++) {
            x.create(1, 1);
        }
        x.start(0);
        for (int pane = 1; pane < 12; pane++) {
            x.dock(pane, pane - 1, pane % 2 == 1 ? 1 : 3);
        }
        x.resize(0, 255, 190);
        String[] due = {
            "0 0 127 190", "128 0 127 95", "128 96 63 94", "192 96 63 47", "192 144 31 46", "224 144 31 23", "224 168 15 22",
            "240 168 15 11", "240 180 7 10", "248 180 7 5", "248 186 3 4", "252 186 3 4"
        };
        for (int pane = 0; pane < 12; pane++) {
            Check.due("7: by docking, pane " + pane, Check.rectangle(x, pane), due[pane]);
        }
        Check.due("12: the minimum width", x.window(0, 5), 7 * 1 + 6);
        Check.due("12: the minimum height", x.window(0, 6), 6 * 2 + 5);
    }

    /** What is left of r in one split has nothing to do with what is left in another one. */
    private static void restsBesideEachOther() {
        Run x = Check.layout(4, "H(100:a,100:b,100:V(1:c,1:d))");
        x.resize(0, 102, 60);
        Check.due("7: 100 by three", columns(x, 3), "0+34 35+33 69+33");
        Check.due("7: 59 by two", Check.rectangle(x, 2) + ", " + Check.rectangle(x, 3), "69 0 33 30, 69 31 33 29");
        Run y = Check.layout(5, "H(1:V(1:a,1:b),100:c,100:d,100:e)");
        y.resize(0, 305, 60);
        Check.due("7: in the first child", Check.rectangle(y, 0) + ", " + Check.rectangle(y, 1), "0 0 5 30, 0 31 5 29");
    }

    private static void drag() {
        Run x = Check.layout(3, "H(1:a,1:b,1:c)");
        x.resize(0, 92, 60);
        Check.due("21: right of the pane", x.drag(0, 1, 7), 7);
        Check.due("21: weights", Check.tree(x, 0), "H(3700:a*,2300:b*,3000:c*)");
        Check.due("21: columns", columns(x, 3), "0+37 38+23 62+30");
        Check.due("21: left of the pane", x.drag(2, 0, -3), -3);
        Check.due("21: columns again", columns(x, 3), "0+37 38+20 59+33");
        Check.due("21: undoable", x.undo(), 4);
        Check.due("21: undone", columns(x, 3), "0+37 38+23 62+30");
        Check.due("21: by nothing", x.drag(1, 0, 0), 0);
        Check.due("21: undoable even so", x.undo(), 4);
        Run y = Check.layout(2, "V(5:a,5:b)");
        Check.due("21: below", y.drag(0, 3, 4), 4);
        Check.due("21: rows", y.rectangle(0, 3) + " " + y.rectangle(1, 3), "34 25");
        Check.due("21: above", y.drag(1, 2, -5), -5);
        Check.due("21: rows again", y.rectangle(0, 3) + " " + y.rectangle(1, 3), "29 30");
        Check.due("21: weights by sizes", Check.tree(y, 0), "V(2900:a*,3000:b*)");
        Run z = Check.layout(2, "V(5:a,5:b)");
        z.drag(0, 3, 0);
        Check.due("21: weights change without a move", Check.tree(z, 0), "V(3000:a*,2900:b*)");
    }

    private static void dragLimits() {
        Run x = Check.layout(3, "H(1:a,1:b,1:c)");
        x.resize(0, 92, 60);
        Check.due("21: as far as b's minimum", x.drag(0, 1, 400), 25);
        Check.due("21: as far as a's minimum", x.drag(0, 1, -400), -50);
        Check.due("21: columns", columns(x, 3), "0+5 6+55 62+30");
        Check.due("21: away from a's minimum", x.drag(0, 1, 2), 2);
        Check.due("21: back to a's minimum", x.drag(1, 0, -3), -2);
        x.resize(0, 12, 60);
        Check.due("21: below the minimum", columns(x, 3), "0+5 6+5 12+0");
        Check.due("21: c is too small already", x.drag(1, 1, -5), 0);
        Check.due("21: weights at least 1", Check.tree(x, 0), "H(500:a*,500:b*,1:c*)");
        Check.due("21: a and b just fit", x.drag(0, 1, 3), 0);
        Run y = Check.layout(2, "V(1:a,1:b)");
        y.setMinimum(0, 1, 39);
        y.resize(0, 10, 30);
        Check.due("21: the first is too small", y.drag(1, 2, 1), 0);
    }

    private static void dragUp() {
        String tree = "H(1:V(1:a,1:b),1:V(1:H(1:c,1:d),1:e))";
        Run x = Check.layout(5, tree);
        x.resize(0, 81, 81);
        Check.due("21: from a, the outer divider", x.drag(0, 1, 2), 2);
        Check.due("21: outer weights", Check.tree(x, 0), "H(4200:V(1:a*,1:b*),3800:V(1:H(1:c*,1:d*),1:e*))");
        Check.due("21: from c to the right, the inner one", x.drag(2, 1, 1), 1);
        Check.due("21: from c to the left, the outer one", x.drag(2, 0, -2), -2);
        Check.due("21: tree", Check.tree(x, 0), "H(4000:V(1:a*,1:b*),4000:V(1:H(2000:c*,1700:d*),1:e*))");
        Check.due("21: from d down", x.drag(3, 3, 5), 5);
        Check.due("21: tree again", Check.tree(x, 0), "H(4000:V(1:a*,1:b*),4000:V(4500:H(2000:c*,1700:d*),3500:e*))");
        Check.refused("21: nothing right of d", x, Check.STATE, () -> x.drag(3, 1, 1));
        Check.refused("21: nothing above d", x, Check.STATE, () -> x.drag(3, 2, 1));
        Run y = Check.layout(3, "H(1:a,1:H(1:b,1:c))");
        Check.due("21: a split of the same direction above", y.drag(1, 0, 3), 3);
        Check.due("21: its weights", Check.tree(y, 0), "H(6300:a*,5600:H(1:b*,1:c*))");
    }

    /** "the weights of all children of the split that are shown become 100 times their new sizes, but at least 1". */
    private static void dragBySize() {
        Run x = Check.layout(2, "H(1:a,1:b)");
        x.setMinimum(0, 1, 1);
        x.setMinimum(1, 1, 1);
        x.resize(0, 400, 400);
        Check.due("21: as far as it goes", x.drag(0, 1, 400), 198);
        Check.due("21: the greatest size and the least", Check.tree(x, 0), "H(39800:a*,100:b*)");
        Check.due("21: and back", x.drag(1, 0, -400), -397);
        Check.due("21: the other way", Check.tree(x, 0), "H(100:a*,39800:b*)");
        Check.due("21: just as far as it can", x.drag(1, 0, 397), 397);
        Check.due("21: no farther", x.drag(1, 0, 1), 0);
        Check.due("21: by its whole spare size", x.drag(0, 1, -397), -397);
        Check.due("21: one more than it can", x.drag(0, 1, -1), 0);
        Check.due("21: the weights are as before", Check.tree(x, 0), "H(100:a*,39800:b*)");
        Run y = Check.layout(3, "H(1:a,1:b,1:c)");
        y.resize(0, 11, 60);
        Check.due("7: no column for c", columns(y, 3), "0+5 6+4 11+0");
        y.drag(0, 1, 0);
        Check.due("21: weight 1 for it", Check.tree(y, 0), "H(500:a*,400:b*,1:c*)");
    }

    /** "if one of them is already less than its minimum size, it does not move": neither way. */
    private static void dragTooSmall() {
        for (int by : new int[] {-400, -1, 0, 1, 400}) {
            Run x = Check.layout(2, "H(1:a,1:b)");
            x.setMinimum(0, 7, 1);
            x.resize(0, 12, 60);
            Check.due("7: b lacks a column", columns(x, 2), "0+7 8+4");
            Check.due("21: by " + by, x.drag(0, 1, by), 0);
            Check.due("21: the weights by " + by, Check.tree(x, 0), "H(700:a*,400:b*)");
            Run y = Check.layout(2, "V(1:a,1:b)");
            y.setMinimum(0, 1, 11);
            y.resize(0, 60, 10);
            Check.due("7: a lacks rows, b has none", y.rectangle(0, 3) + " " + y.rectangle(1, 3), "9 0");
            Check.due("21: up or down by " + by, y.drag(1, 2, by), 0);
        }
        Run z = Check.layout(2, "H(1:a,1:b)");
        z.resize(0, 11, 60);
        Check.due("21: both have their minimum sizes, to the left", z.drag(0, 1, -1), 0);
        Check.due("21: both have their minimum sizes, to the right", z.drag(0, 1, 1), 0);
        z.resize(0, 12, 60);
        Check.due("7: one column to spare", columns(z, 2), "0+6 7+5");
        Check.due("21: by the one that is to spare", z.drag(0, 1, -5), -1);
    }

    /** "the divider lies between the node and the nearest such child", "anywhere before it for left and above". */
    private static void dragNearest() {
        Run x = Check.layout(5, "H(1:a,1:b,1:c-,1:d-,1:e)");
        x.resize(0, 62, 60);
        Check.due("21: from e to the left", x.drag(4, 0, -2), -2);
        Check.due("21: b and e", x.rectangle(0, 2) + " " + x.rectangle(1, 2) + " " + x.rectangle(4, 2), "20 18 22");
        Check.due("21: from a to the right", x.drag(0, 1, 3), 3);
        Check.due("21: a and b", x.rectangle(0, 2) + " " + x.rectangle(1, 2) + " " + x.rectangle(4, 2), "23 15 22");
        Check.due("21: from b over the hidden ones", x.drag(1, 1, 4), 4);
        Check.due("21: b and e again", x.rectangle(0, 2) + " " + x.rectangle(1, 2) + " " + x.rectangle(4, 2), "23 19 18");
        Run y = Check.layout(4, "V(1:a-,1:H(1:b,1:c),1:d)");
        Check.refused("21: only a hidden one above", y, Check.STATE, () -> y.drag(1, 2, 1));
        Check.due("21: below", y.drag(2, 3, 1), 1);
        Run z = Check.layout(4, "V(1:d,1:H(1:V(1:a-,1:b),1:c))");
        Check.due("21: past a split with a hidden child", z.drag(1, 2, 2), 2);
        Check.due("21: the outer split", z.pane(3, 7), 3200);
        Check.due("21: the inner one stays", z.pane(1, 7), 1);
    }

    private static void dragHidden() {
        Run x = Check.layout(6, "H(10:a,3:b-,20:c,1:d-,1000000:e-,30:f)");
        x.resize(0, 62, 60);
        Check.due("21: the nearest one that is shown", x.drag(2, 0, 4), 4);
        Check.due("21: hidden ones are scaled", Check.tree(x, 0), "H(1400:a*,300:b-,1600:c*,100:d-,1000000:e-,3000:f*)");
        x.resize(0, 14, 60);
        x.setMinimum(0, 1, 1);
        Check.due("21: over the hidden ones", x.drag(5, 0, 0), 0);
        Check.due("21: rounded down, at least 1", Check.tree(x, 0), "H(200:a*,60:b-,500:c*,20:d-,200000:e-,500:f*)");
        Run first = Check.layout(3, "H(8:a-,2:b,2:c)");
        first.resize(0, 41, 60);
        first.drag(1, 1, 0);
        Check.due("21: a hidden first child", Check.tree(first, 0), "H(8000:a-,2000:b*,2000:c*)");
        Run y = Check.layout(3, "H(1000000:a,1:b-,1000000:c)");
        y.drag(0, 1, 1);
        Check.due("21: at least 1", y.pane(1, 7), 1);
        Run z = Check.layout(4, "H(1:a,7:b-,5:c,1:d)");
        z.resize(0, 12, 60);
        z.show(3, false);
        z.drag(0, 1, 0);
        Check.due("21: 7 * 1100 / 6, rounded down", z.pane(1, 7), 1283);
    }

    /** "multiplied by the sum of these new weights, divided by ... (rounded down), and limited to 1 to 1000000". */
    private static void dragHiddenAtTheEnds() {
        // Two columns of sizes 60 and 59: the new weights are 6000 and 5900, their sum 11900.
        String[][] texts = {
            {"H(1000000:a,168:b-,1000000:c)", "1"}, {"H(1000000:a,169:b-,1000000:c)", "1"},
            {"H(1000000:a,336:b-,1000000:c)", "1"}, {"H(1000000:a,337:b-,1000000:c)", "2"},
            {"H(1000000:a,1000000:b-,1000000:c)", "5950"}, {"H(1:a,168:b-,1:c)", "999600"},
            {"H(1:a,169:b-,1:c)", "1000000"}, {"H(1:a,1000000:b-,1:c)", "1000000"},
            {"H(119:a,20000:b-,119:c)", "1000000"}, {"H(119:a,19999:b-,119:c)", "999950"}, {"H(119:a,20001:b-,119:c)", "1000000"}
        };
        for (String[] t : texts) {
            Run x = Check.layout(3, t[0]);
            x.drag(0, 1, 0);
            Check.due("21: the new weights of " + t[0], x.pane(0, 7) + x.pane(2, 7), 11900);
            Check.due("21: the hidden one of " + t[0], x.pane(1, 7), Integer.parseInt(t[1]));
        }
        Run y = Check.layout(4, "H(2:a,5:b-,2:c,7:d-)");
        y.drag(0, 1, 9);
        Check.due("21: each hidden one", Check.tree(y, 0), "H(6900:a*,14875:b-,5000:c*,20825:d-)");
    }

    private static void dragRefused() {
        Run x = Check.layout(5, "H(1:a,1:b-,1:V(1:c-,1:d))");
        Check.refused("21: no such pane comes first", x, Check.INDEX, () -> x.drag(5, 4, 0));
        Check.refused("21: side before placed", x, Check.ARGUMENT, () -> x.drag(4, 4, 0));
        Check.refused("21: side -1", x, Check.ARGUMENT, () -> x.drag(0, -1, 0));
        Check.refused("21: by 401", x, Check.ARGUMENT, () -> x.drag(0, 1, 401));
        Check.refused("21: by -401", x, Check.ARGUMENT, () -> x.drag(0, 1, -401));
        Check.refused("21: not placed", x, Check.STATE, () -> x.drag(4, 0, 0));
        Check.refused("21: not shown", x, Check.STATE, () -> x.drag(1, 0, 0));
        Check.refused("21: nothing on this side", x, Check.STATE, () -> x.drag(0, 0, 0));
        Check.refused("21: nothing shown on this side", x, Check.STATE, () -> x.drag(3, 2, 0));
        x.show(0, false);
        Check.refused("21: nothing shown at all on this side", x, Check.STATE, () -> x.drag(3, 0, 0));
        x.floatAt(4, 0, 0, 10, 10);
        Check.refused("21: the root", x, Check.STATE, () -> x.drag(4, 0, 0));
    }
}
