/**
 * The sections of the document before its promises, but for SIZES (SizesTest), TEXTS (TextsTest) and
 * EXCEPTIONS (RefusalsTest). Each method quotes what it tests.
 */
public final class DescriptionTest {
    public static void main(String[] args) {
        lastCall();
        severalObjects();
        twelvePanes();
        minimumSizes();
        placedOrNot();
        mainWindow();
        windowNumbers();
        windowExists();
        mainIsBehind();
        twoChildren();
        weightsAtTheEnds();
        oneGroup();
        shownNodes();
        activeIsHidden();
        activeLeaves();
        othersAreHidden();
        shownBecomesActive();
        groupWithoutPanes();
        splitWithOneChild();
        joinsTheSplitAbove();
        asTheTreeIsThen();
        directlyBeside();
        halfTheWeight();
        newSplit();
        behindAllTabs();
        shownActiveFirst();
        orderOfFocus();
        fiveRecords();
        Check.finish();
    }

    /** "An object is used for at most 512 calls after it has been made": the last of them is answered. */
    private static void lastCall() {
        Run x = Check.layout(12, "H(1:abc,1:V(1:de,1:fg))");
        for (int pane = 7; pane < 11; pane++) {
            x.floatAt(pane, 0, 0, 20, 20);
        }
        x.store(0);
        for (int k = 0; x.callCount() < 509; k++) {
            switch (k % 4) {
                case 0: x.restore(0); break;
                case 1: x.drag(3, 0, 1); break;
                case 2: x.dock(11, k / 4 % 11, k / 4 % 5); break;
                default: x.takeAway(11); break;
            }
        }
        x.restore(0);
        x.drag(3, 0, 1);
        Check.due("the 512th call", x.rectangle(3, 0), 62);
        Check.due("512 calls", x.callCount(), 512);
    }

    /** "Creates a layout without panes, with empty slots, an empty text and without records": beside another one. */
    private static void severalObjects() {
        Run x = Check.layout(2, "ab");
        x.store(0);
        Run y = new Run();
        y.create(7, 7);
        Check.due("1: the first one's panes", x.panes(), 3);
        Check.due("1: the second one's", y.panes(), 1);
        Check.due("1: its text", y.character(0), -1);
        Check.refused("1: its slots", y, Check.STATE, () -> y.restore(0));
        Check.due("1: its records", y.undo(), 0);
        Check.due("1: the first one's records", x.undo(), 3);
    }

    /** "There are at most 12 panes, numbered from 0 to 11; a new pane gets the lowest number that is free." */
    private static void twelvePanes() {
        Run x = new Run();
        for (int k = 0; k < 12; k++) {
            Check.due("2: number", x.create(1, 1), k);
        }
        Check.due("5: all", x.panes(), 0xfff);
        Check.refused("2: the thirteenth", x, Check.STATE, () -> x.create(1, 1));
        for (int pane : new int[] {11, 0, 6}) {
            x.remove(pane);
        }
        Check.due("5: nine", x.panes(), 0x7be);
        Check.due("2: the lowest", x.create(1, 1), 0);
        Check.due("2: the next", x.create(1, 1), 6);
        Check.due("2: the highest", x.create(1, 1), 11);
        Check.refused("2: full again", x, Check.STATE, () -> x.create(1, 1));
        for (int pane = 0; pane < 12; pane++) {
            Check.due("3: how many there are then", x.remove(pane), 11 - pane);
        }
        Check.due("2: the first one again", x.create(1, 1), 0);
    }

    /** "A pane has a minimum width and a minimum height, from 1 to 40." */
    private static void minimumSizes() {
        Run x = new Run();
        int[][] sizes = {{1, 1}, {40, 40}, {1, 40}, {40, 1}};
        for (int pane = 0; pane < 4; pane++) {
            x.create(sizes[pane][0], sizes[pane][1]);
            Check.due("2: width", x.pane(pane, 0), sizes[pane][0]);
            Check.due("2: height", x.pane(pane, 1), sizes[pane][1]);
            x.start(pane);
            Check.due("12: width with it alone", x.window(0, 5), sizes[pane][0]);
            Check.due("12: height with it alone", x.window(0, 6), sizes[pane][1] + 1);
            x.takeAway(pane);
        }
        Check.due("4: from the greatest to the least", x.setMinimum(1, 1, 1), 4040);
        Check.due("4: and back", x.setMinimum(1, 40, 40), 101);
        Check.due("4: only the height", x.setMinimum(1, 40, 39), 4040);
        Check.due("4: only the width", x.setMinimum(1, 39, 39), 4039);
    }

    /** "It is placed in a window, or not placed (as at first). A pane that is placed is shown or hidden." */
    private static void placedOrNot() {
        Run x = new Run();
        x.create(5, 5);
        int[] due = {5, 5, -1, 0, 0, -1, -1, -1, -1};
        for (int what = 0; what <= 8; what++) {
            Check.due("6: not placed, " + what, x.pane(0, what), due[what]);
        }
        Check.due("7: no rectangle", Check.rectangle(x, 0), "-1 -1 -1 -1");
        Check.due("8: no tabs", x.tab(0, 0), -1);
        Check.due("23: no focus", x.focus(0), -1);
        x.start(0);
        int[] placed = {5, 5, 0, 0, 1, 0, 1, -1, -1};
        for (int what = 0; what <= 8; what++) {
            Check.due("6: placed, " + what, x.pane(0, what), placed[what]);
        }
        x.show(0, false);
        int[] hidden = {5, 5, 0, 1, 0, 0, 1, -1, -1};
        for (int what = 0; what <= 8; what++) {
            Check.due("6: hidden, " + what, x.pane(0, what), hidden[what]);
        }
        x.takeAway(0);
        for (int what = 0; what <= 8; what++) {
            Check.due("6: taken away, " + what, x.pane(0, what), due[what]);
        }
    }

    /** "its upper left corner lies at column 0, row 0, and at first it has 120 columns and 60 rows." */
    private static void mainWindow() {
        Run x = Check.layout(1, "");
        int[] due = {0, 0, 120, 60, 0, 0, 0, -1};
        for (int what = 0; what <= 7; what++) {
            Check.due("12: at first, " + what, x.window(0, what), due[what]);
        }
        x.start(0);
        Check.due("7: the root has all of it", Check.rectangle(x, 0), "0 0 120 60");
        int[][] kinds = {{0, 0, 2}, {119, 0, 2}, {0, 59, 1}, {119, 59, 1}, {120, 59, 0}, {119, 60, 0}, {-1, 0, 0}, {0, -1, 0}};
        for (int[] k : kinds) {
            Check.due("24: " + k[0] + " " + k[1], x.kindAt(k[0], k[1]), k[2]);
        }
        x.resize(0, 10, 400);
        Check.due("12: its corner stays", x.window(0, 0) + x.window(0, 1), 0);
    }

    /** "Windows 1 to 4 are floating; a new one gets the lowest number that is free." */
    private static void windowNumbers() {
        Run x = Check.layout(6, "f");
        for (int pane = 0; pane < 4; pane++) {
            Check.due("16: number", x.floatAt(pane, pane, 0, 10, 10), pane + 1);
        }
        Check.refused("16: a fifth", x, Check.STATE, () -> x.floatAt(4, 0, 0, 10, 10));
        x.takeAway(3);
        x.takeAway(0);
        x.takeAway(2);
        Check.due("13: the second one is left", Check.floating(x), "2");
        Check.due("16: the lowest", x.floatAt(4, 0, 0, 10, 10), 1);
        Check.due("16: the next", x.floatAt(0, 0, 0, 10, 10), 3);
        Check.due("16: the highest", x.floatAt(2, 0, 0, 10, 10), 4);
        Check.due("13: in the order in which they came", Check.floating(x), "2134");
        Check.refused("16: full again", x, Check.STATE, () -> x.floatAt(3, 0, 0, 10, 10));
    }

    /** "A floating window exists as long as a pane is placed in it." */
    private static void windowExists() {
        Run x = Check.layout(4, "a");
        x.store(0);
        x.floatAt(1, 0, 0, 10, 10);
        x.dock(2, 1, 4);
        x.takeAway(1);
        Check.due("12: one pane is left", x.window(1, 4), 1);
        x.show(2, false);
        Check.due("12: a hidden one keeps it", x.window(1, 4), 1);
        Check.due("13: in the order", Check.floating(x), "1");
        Check.due("12: its size", x.window(1, 2), 10);
        goneBehind(x, "takeAway 2");
        goneBehind(x, "remove 2");
        goneBehind(x, "dock 2 0 4");
        goneBehind(x, "restore 0");
        Run moved = x.twin();
        Check.due("16: the same number for another place", moved.floatAt(2, 7, 7, 20, 20), 1);
        Check.due("13: one window", Check.floating(moved), "1");
        x.takeAway(0);
        goneBehind(x, "start 2");
    }

    private static void goneBehind(Run x, String line) {
        Run y = x.twin();
        y.call(line);
        Check.due("13: none behind " + line, Check.floating(y), "");
        Check.refused("12: gone behind " + line, y, Check.INDEX, () -> y.window(1, 0));
        Check.refused("9: gone behind " + line, y, Check.INDEX, () -> y.resize(1, 10, 10));
        Check.refused("10: gone behind " + line, y, Check.INDEX, () -> y.move(1, 0, 0));
        Check.refused("11: gone behind " + line, y, Check.INDEX, () -> y.raise(1));
        Check.refused("33: gone behind " + line, y, Check.INDEX, () -> y.write(1));
    }

    /** "The floating windows are in an order from back to front; the main window is behind them." */
    private static void mainIsBehind() {
        Run x = Check.layout(4, "ab");
        x.floatAt(2, 0, 0, 10, 10);
        x.floatAt(3, 5, 5, 10, 10);
        x.activate(1);
        x.dock(0, 1, 0);
        x.resize(0, 130, 70);
        Check.due("25: the lower one", x.paneAt(4, 4), 2);
        Check.due("25: the upper one", x.paneAt(7, 7), 3);
        Check.due("25: main beside them", x.paneAt(4, 10), 0);
        Check.due("12: no position", x.window(0, 7), -1);
    }

    /** "and at least two children": a split with one child is replaced, one with two is not. */
    private static void twoChildren() {
        Run x = Check.layout(4, "H(1:a,2:b,3:c,4:d)");
        x.takeAway(1);
        Check.due("17: three are left", Check.tree(x, 0), "H(1:a*,3:c*,4:d*)");
        x.takeAway(0);
        Check.due("17: two are left", Check.tree(x, 0), "H(3:c*,4:d*)");
        x.takeAway(3);
        Check.due("17: one is left", Check.tree(x, 0), "c*");
        Check.due("6: the root has no weight", x.pane(2, 7), -1);
    }

    /** "each of them a node with a weight from 1 to 1000000": both ends are kept. */
    private static void weightsAtTheEnds() {
        Run x = Check.layout(3, "H(1:a,1000000:b,999999:c)");
        Check.due("6: the least", x.pane(0, 7), 1);
        Check.due("6: the greatest", x.pane(1, 7), 1000000);
        Check.due("33: all", Check.tree(x, 0), "H(1:a*,1000000:b*,999999:c*)");
    }

    /** "Each pane that is placed belongs to exactly one group." */
    private static void oneGroup() {
        Run x = Check.layout(3, "H(1:ab,1:c)");
        x.dock(1, 2, 4);
        Check.due("14: the group that it left", x.tab(0, 1), -1);
        Check.due("14: its number of panes", x.pane(0, 6), 1);
        Check.due("14: the group that it is in", Check.tree(x, 0), "H(1:a*,1:cb*)");
        Check.due("12: it counts once", x.window(0, 4), 3);
    }

    /** "A group is shown if one of its panes is shown, a split if one of its children is shown." */
    private static void shownNodes() {
        Run x = Check.layout(5, "H(1:a,1:V(1:b-,1:H(1:cd-,1:e)))");
        x.show(4, false);
        Check.due("7: by one pane", Check.rectangle(x, 3), "61 0 59 60");
        Check.due("7: hidden beside it", Check.rectangle(x, 4), "-1 -1 -1 -1");
        x.show(2, false);
        Check.due("7: the splits are not shown", Check.rectangle(x, 0), "0 0 120 60");
        Check.due("7: nor the group", Check.rectangle(x, 3), "-1 -1 -1 -1");
        x.show(3, true);
        Check.due("7: shown again", Check.rectangle(x, 3), "61 0 59 60");
    }

    /**
     * "When the active pane of a group is hidden ..., the first pane shown behind it in the order of tabs becomes
     * active; if there is none, the last pane shown before it; if there is none, there is no active pane."
     */
    private static void activeIsHidden() {
        Run x = Check.layout(6, "abc-d*e-f");
        x.show(3, false);
        Check.due("18: the first behind it", Check.tree(x, 0), "abc-d-e-f*");
        x.show(5, false);
        Check.due("18: the last before it", Check.tree(x, 0), "ab*c-d-e-f-");
        x.show(1, false);
        Check.due("18: the one before that", Check.tree(x, 0), "a*b-c-d-e-f-");
        x.show(0, false);
        Check.due("18: none", Check.tree(x, 0), "a-b-c-d-e-f-");
        for (int pane = 0; pane < 6; pane++) {
            Check.due("6: not active", x.pane(pane, 4), 0);
        }
        Run y = Check.layout(4, "a*bcd");
        y.show(0, false);
        Check.due("18: the next one, not the last", Check.tree(y, 0), "a-b*cd");
    }

    /** "When the active pane of a group ... leaves the group": by each of the methods by which it can leave. */
    private static void activeLeaves() {
        String[] lines = {"takeAway 3", "remove 3", "dock 3 6 0", "dock 3 6 4", "dock 3 0 0", "floatAt 3 0 0 10 10"};
        for (String line : lines) {
            leaves(line, "abc-d*e-f", 5);
            leaves(line, "abc-d*e-", 1);
            leaves(line, "a-b-c-d*e-", -1);
            leaves(line, "a-bcd*ef", 4);
            leaves(line, "ab*c-de-f", 1);
        }
        Run x = Check.layout(2, "");
        x.floatAt(0, 0, 0, 10, 10);
        x.dock(1, 0, 4);
        x.start(1);
        Check.due("15: active then", x.pane(0, 4), 1);
    }

    private static void leaves(String line, String tabs, int active) {
        Run x = Check.layout(7, "H(1:" + tabs + ",1:g)");
        x.call(line);
        for (int pane = 0; pane < 6; pane++) {
            if (pane != 3) {
                Check.due(line + " of " + tabs + ": pane " + pane, tabs.indexOf('a' + pane) < 0 ? 0 : x.pane(pane, 4),
                    pane == active ? 1 : 0);
            }
        }
    }

    /** A pane that is not the active one is hidden, or leaves: then the active one stays. */
    private static void othersAreHidden() {
        Run x = Check.layout(4, "abc*d");
        x.show(3, false);
        x.show(0, false);
        Check.due("18: hidden beside it", Check.tree(x, 0), "a-bc*d-");
        x.takeAway(1);
        x.takeAway(3);
        Check.due("17: gone beside it", Check.tree(x, 0), "a-c*");
    }

    /** "When a pane of a group without an active pane is shown, it becomes active." */
    private static void shownBecomesActive() {
        Run x = Check.layout(3, "a-b-c-");
        x.show(1, false);
        Check.due("18: still none", Check.tree(x, 0), "a-b-c-");
        x.show(1, true);
        Check.due("18: the first that is shown", Check.tree(x, 0), "a-b*c-");
        x.show(0, true);
        x.show(2, true);
        Check.due("18: others are not", Check.tree(x, 0), "ab*c");
    }

    /** "A group without panes is removed from its split, or, if it is the root, with the tree (and the floating window)." */
    private static void groupWithoutPanes() {
        Run x = Check.layout(4, "H(1:ab,1:c,1:d)");
        x.takeAway(0);
        Check.due("17: one pane is left", Check.tree(x, 0), "H(1:b*,1:c*,1:d*)");
        x.takeAway(1);
        Check.due("17: removed from its split", Check.tree(x, 0), "H(1:c*,1:d*)");
        x.takeAway(2);
        x.takeAway(3);
        Check.due("17: removed with the tree", x.write(0), 0);
        Check.due("12: no tree: its width", x.window(0, 5), 0);
        Check.due("12: its height", x.window(0, 6), 0);
        Check.due("24: nothing there", x.kindAt(0, 0), 0);
        x.floatAt(0, 0, 0, 10, 10);
        x.floatAt(1, 0, 0, 10, 10);
        x.takeAway(0);
        Check.due("17: with the floating window", Check.floating(x), "2");
    }

    /** "A split that has only one child left is replaced by this child ..., which gets the weight of the split." */
    private static void splitWithOneChild() {
        Run x = Check.layout(4, "H(6:a,7:V(8:b,9:c),5:d)");
        x.takeAway(1);
        Check.due("17: the weight of the split", Check.tree(x, 0), "H(6:a*,7:c*,5:d*)");
        Run y = Check.layout(4, "V(6:V(8:a,9:b),7:H(1:c,2:d))");
        y.takeAway(3);
        y.takeAway(0);
        Check.due("17: both of them", Check.tree(y, 0), "V(6:b*,7:c*)");
        Run root = Check.layout(3, "H(5:a,6:V(1:b,2:c))");
        root.takeAway(0);
        Check.due("17: a split becomes the root", Check.tree(root, 0), "V(1:b*,2:c*)");
        Check.due("7: with all of the window", Check.rectangle(root, 1), "0 0 120 20");
    }

    /** "(also if that is a split of the same direction as the one above)". */
    private static void joinsTheSplitAbove() {
        Run x = Check.layout(5, "H(6:a,7:V(8:b,9:H(2:c,3:d)))");
        x.takeAway(1);
        Check.due("17: it stays a split of its own", Check.tree(x, 0), "H(6:a*,7:H(2:c*,3:d*))");
        Check.due("22: with two children", x.even(2), 2);
        x.dock(4, 2, 0);
        Check.due("14: a pane that is docked there joins the inner one", Check.tree(x, 0),
            "H(6:a*,7:H(500:e*,500:c*,1000:d*))");
    }

    /** "If the group of the target is the child of a split, as the tree is then": behind the pane was taken away. */
    private static void asTheTreeIsThen() {
        Run x = Check.layout(3, "H(4:a,6:V(1:b,2:c))");
        x.dock(2, 1, 0);
        Check.due("14: in the split above", Check.tree(x, 0), "H(4:a*,3:c*,3:b*)");
        Run y = Check.layout(2, "H(4:a,6:b)");
        y.dock(0, 1, 1);
        Check.due("14: a new split", Check.tree(y, 0), "H(1000:b*,1000:a*)");
        Run z = Check.layout(3, "H(4:a,6:V(1:b,2:c))");
        z.dock(0, 2, 1);
        Check.due("14: no split of its direction any more", Check.tree(z, 0), "V(1:b*,2:H(1000:c*,1000:a*))");
    }

    /** "directly before it (left, above) or behind it (right, below)". */
    private static void directlyBeside() {
        String[][] due = {
            {"H(1:d*,1:a*,2:b*,2:c*)", "H(2:a*,1:d*,1:b*,2:c*)", "H(2:a*,2:b*,1:d*,1:c*)"},
            {"H(1:a*,1:d*,2:b*,2:c*)", "H(2:a*,1:b*,1:d*,2:c*)", "H(2:a*,2:b*,1:c*,1:d*)"}
        };
        for (int target = 0; target < 3; target++) {
            for (int side = 0; side < 2; side++) {
                Run x = Check.layout(4, "H(2:a,2:b,2:c)");
                x.dock(3, target, side);
                Check.due("14: side " + side + " of " + target, Check.tree(x, 0), due[side][target]);
                Run y = Check.layout(4, "V(2:a,2:b,2:c)");
                y.dock(3, target, side + 2);
                Check.due("14: side " + (side + 2) + " of " + target, Check.tree(y, 0), due[side][target].replace('H', 'V'));
            }
        }
    }

    /** "half of the weight ..., rounded down, but at least 1, and the group of the target keeps the rest, but at least 1". */
    private static void halfTheWeight() {
        int[][] weights = {{1, 1, 1}, {2, 1, 1}, {3, 2, 1}, {4, 2, 2}, {999999, 500000, 499999}, {1000000, 500000, 500000}};
        for (int[] w : weights) {
            for (int side = 0; side < 4; side++) {
                Run x = Check.layout(3, (side < 2 ? "H(" : "V(") + w[0] + ":a,9:b)");
                x.dock(2, 0, side);
                Check.due("14: the target's part of " + w[0], x.pane(0, 7), w[1]);
                Check.due("14: the other part of " + w[0], x.pane(2, 7), w[2]);
                Check.due("14: the next one's weight", x.pane(1, 7), 9);
            }
        }
    }

    /** "replaced by a new split of this direction, which gets its weight, ... with weight 1000 each". */
    private static void newSplit() {
        for (int weight : new int[] {1, 1000000}) {
            Run x = Check.layout(3, "H(" + weight + ":a,9:b)");
            x.dock(2, 0, 2);
            Check.due("14: above", Check.tree(x, 0), "H(" + weight + ":V(1000:c*,1000:a*),9:b*)");
            Run y = Check.layout(3, "V(9:b," + weight + ":a)");
            y.dock(2, 0, 1);
            Check.due("14: right", Check.tree(y, 0), "V(9:b*," + weight + ":H(1000:a*,1000:c*))");
        }
    }

    /** "For side 4 it comes into the group of the target, behind all panes there." */
    private static void behindAllTabs() {
        Run x = Check.layout(12, "abcdefghijk-");
        x.dock(11, 0, 4);
        Check.due("14: as the twelfth", Check.tree(x, 0), "abcdefghijk-l*");
        x.dock(0, 10, 4);
        Check.due("14: out of the same group", Check.tree(x, 0), "bcdefghijk-la*");
        x.dock(0, 1, 4);
        Check.due("14: where it is", x.pane(0, 5), 11);
    }

    /** "The pane is shown then, active in its group, and first in the order of focus." */
    private static void shownActiveFirst() {
        for (int side = 0; side <= 4; side++) {
            Run x = Check.layout(5, "H(1:abc-,1:d-,1:e)");
            x.dock(2, 0, side);
            checkFirst(x, 2, "dabe", "out of the same group, side " + side);
            x.dock(3, 2, side);
            checkFirst(x, 3, "cabe", "out of another group, side " + side);
        }
        Run x = Check.layout(5, "H(1:abc-,1:d-,1:e)");
        x.floatAt(3, 0, 0, 10, 10);
        checkFirst(x, 3, "abce", "floating");
        x.show(3, false);
        x.floatAt(3, 5, 5, 10, 10);
        checkFirst(x, 3, "abce", "floating again");
        Run y = Check.layout(2, "a-");
        y.start(0);
        checkFirst(y, 0, "", "started");
    }

    /** The others are told without an order. */
    private static void checkFirst(Run x, int pane, String others, String how) {
        Check.due(how + ": shown", x.pane(pane, 3), 0);
        Check.due(how + ": active", x.pane(pane, 4), 1);
        Check.due(how + ": first", x.focus(0), pane);
        String rest = Check.focus(x).substring(1);
        Check.due(how + ": the others", rest.length(), others.length());
        for (int k = 0; k < others.length(); k++) {
            Check.due(how + ": " + others.charAt(k), rest.indexOf(others.charAt(k)) >= 0, true);
        }
    }

    /** "The order of focus contains all panes that are placed ...; a pane that is not placed any more leaves it." */
    private static void orderOfFocus() {
        Run x = Check.layout(12, "");
        Check.due("23: empty", x.focus(0), -1);
        x.start(0);
        for (int pane = 1; pane < 12; pane++) {
            x.dock(pane, 0, pane % 5);
        }
        Check.due("23: full", Check.focus(x), "lkjihgfedcba");
        x.show(11, false);
        x.show(4, false);
        Check.due("23: hidden ones stay", Check.focus(x), "lkjihgfedcba");
        x.dock(0, 1, 0);
        Check.due("23: the last comes first", Check.focus(x), "alkjihgfedcb");
        x.activate(0);
        Check.due("23: the first stays", Check.focus(x), "alkjihgfedcb");
        x.takeAway(0);
        x.remove(1);
        x.takeAway(6);
        Check.due("23: first, last and middle leave", Check.focus(x), "lkjihfedc");
        x.floatAt(0, 0, 0, 10, 10);
        Check.due("23: one comes back", Check.focus(x), "alkjihfedc");
    }

    /** "At most 5 records are kept; when one more is made, the oldest is dropped." */
    private static void fiveRecords() {
        for (int made = 0; made <= 12; made++) {
            Run x = new Run();
            for (int k = 0; k < made; k++) {
                x.resize(0, 10 + k, 10);
            }
            int kept = Math.min(made, 5);
            for (int left = kept - 1; left >= 0; left--) {
                int before = made - kept + left;
                Check.due("35: left of " + made, x.undo(), left);
                Check.due("35: columns then", x.window(0, 2), before == 0 ? 120 : 9 + before);
            }
            Check.refused("35: none left of " + made, x, Check.STATE, () -> x.undo());
        }
    }
}
