/** Promises 29 to 34: texts. */
public final class TextsTest {
    private static final Class<?> INDEX = IndexOutOfBoundsException.class;
    private static final Class<?> ARGUMENT = IllegalArgumentException.class;
    private static final Class<?> STATE = IllegalStateException.class;

    public static void main(String[] args) {
        type();
        clearText();
        fault();
        faultOfPanes();
        deepText();
        read();
        write();
        character();
        Check.finish();
    }

    private static void type() {
        DockLayout x = new DockLayout();
        for (int k = 1; k <= 120; k++) {
            Check.due("29: length", x.type(k % 95 + 32), k);
        }
        Check.refused("29: a character more", x, STATE, () -> x.type(65));
        Check.refused("29: a wrong one comes first", x, ARGUMENT, () -> x.type(31));
        Check.refused("29: 127", x, ARGUMENT, () -> x.type(127));
        Check.refused("29: -1", x, ARGUMENT, () -> x.type(-1));
        Check.due("29: no record", x.pane(x.create(1, 1), 0) + x.undo(), 1);
        Check.due("29: the text is not undone", x.character(119), 120 % 95 + 32);
        x.clearText();
        Check.due("29: the least", x.type(32), 1);
        Check.due("29: the greatest", x.type(126), 2);
    }

    private static void clearText() {
        DockLayout x = new DockLayout();
        Check.due("30: empty", x.clearText(), 0);
        Check.typeText(x, "abc");
        Check.due("30: length", x.clearText(), 3);
        Check.due("30: empty then", x.character(0), -1);
        Check.refused("30: no record", x, STATE, () -> x.undo());
    }

    /** Panes a to d: c is in a floating window, d is in the main window, e does not exist. */
    private static void fault() {
        DockLayout x = Check.layout(4, "d-");
        x.floatAt(2, 0, 0, 10, 10);
        String[] texts = {
            "", "0", "a", "-1", "ab", "-1", "a-b*d", "-1", "d", "-1", " a", "0", "a ", "1", "b-*", "2", "b*-", "2",
            "b**", "2", "b--", "2", "a*b*", "3", "a*b-d*", "5", "-a", "0", "*", "0", "A", "0", "H", "1", "H(", "2",
            "H)", "1", "Ha", "1", "h(", "0", "H(0", "2", "H(:", "2", "H(,", "2", "H(a", "2", "H(1", "3", "H(1,", "3",
            "H(01", "2", "H(10:", "5", "H(1:)", "4", "H(1:,", "4", "H(1:a", "5", "H(1:a)", "5", "H(1:a,", "6",
            "H(1:a,)", "6", "H(1:a,1)", "7", "H(1:a,1:b", "9", "H(1:a,1:b)", "-1", "V(1:a,1:b)", "-1",
            "H(1:a,1:b))", "10", "H(1:a,1:b)a", "10", "H(1:a,1:b)-", "10", "H(1:a,1:b,", "10", "H(1:a,1:b,1:d)", "-1",
            "H(1:a1:b)", "5", "H(1:a,1:b:", "9", "H(1000000:a,1:b)", "-1", "H(1000001:a,1:b)", "8",
            "H(1000000", "9", "H(10000000:a,1:b)", "9", "H(9999999:a,1:b)", "8", "H(999999:a,1:b)", "-1",
            "H(2000000:a,1:b)", "8", "H(1:V(1:a,2:b),3:d)", "-1", "H(1:H(1:a,2:b),3:d)", "-1", "H(1:V(1:a),3:d)", "9",
            "H(1:V(1:a,2:b)3:d)", "14", "a,b", "1", "a)", "1", "H(1:ab*d-,1:V(", "14", "H(1 :a,1:b)", "3", "H(+1:a,1:b)", "2"
        };
        for (int k = 0; k < texts.length; k += 2) {
            Check.typeText(x, texts[k]);
            Check.due("31: " + texts[k], x.fault(), Integer.parseInt(texts[k + 1]));
            if (!texts[k + 1].equals("-1")) {
                Check.refused("32: " + texts[k], x, ARGUMENT, () -> x.read());
            }
        }
    }

    private static void faultOfPanes() {
        DockLayout x = Check.layout(4, "d-");
        x.floatAt(2, 0, 0, 10, 10);
        String[] texts = {
            "c", "0", "e", "0", "m", "0", "`", "0", "ac", "1", "ae", "1", "aa", "1", "H(1:a,1:a)", "8",
            "H(1:ab,1:Va", "10", "H(1:a,1:e)", "8", "H(1:a,1:c)", "8", "H(1:abd,1:H(1:", "14"
        };
        for (int k = 0; k < texts.length; k += 2) {
            Check.typeText(x, texts[k]);
            Check.due("31: " + texts[k], x.fault(), Integer.parseInt(texts[k + 1]));
        }
        Check.typeText(x, "c");
        x.takeAway(2);
        Check.due("31: not in a floating window any more", x.fault(), -1);
        x.remove(2);
        Check.due("31: does not exist any more", x.fault(), 0);
        Check.typeText(x, "a");
        x.remove(0);
        Check.due("31: pane 0 does not exist any more", x.fault(), 0);
        DockLayout all = Check.layout(12, "");
        Check.typeText(all, "abcdefghijkl");
        Check.due("31: all panes", all.fault(), -1);
        all.type('m');
        Check.due("31: no thirteenth", all.fault(), 12);
    }

    private static void deepText() {
        DockLayout x = Check.layout(12, "");
        StringBuilder text = new StringBuilder();
        for (int k = 0; k < 30; k++) {
            text.append("H(1:");
        }
        Check.typeText(x, text.toString());
        Check.due("31: thirty splits", x.fault(), 120);
        text.setLength(108);
        Check.typeText(x, text + "a,1:a,1:b");
        Check.due("31: a pane twice in it", x.fault(), 112);
        Check.typeText(x, text + "ab*c*");
        Check.due("31: two stars in it", x.fault(), 112);
        String chain = "H(1:a,1:V(1:b,1:H(1:c,1:V(1:d,1:H(1:e,1:V(1:f,1:H(1:g,1:V(1:h,1:H(1:i,1:V(1:j,1:H(1:k,1:l)))))))))))";
        Check.typeText(x, chain);
        Check.due("31: eleven splits", x.fault(), -1);
        Check.due("32: eleven splits", x.read(), 12);
        Check.due("33: eleven splits", Check.tree(x, 0), chain.replaceAll("([a-l])", "$1*"));
    }

    private static void read() {
        DockLayout x = Check.layout(6, "ab");
        x.floatAt(2, 0, 0, 10, 10);
        x.activate(1);
        Check.typeText(x, "H(5:d-e,7:bf*)");
        Check.due("32: panes", x.read(), 4);
        Check.due("32: the text stays", Check.textOf(x), "H(5:d-e,7:bf*)");
        Check.due("32: tree", Check.tree(x, 0), "H(5:d-e*,7:bf*)");
        Check.due("32: not placed then", x.pane(0, 2), -1);
        Check.due("32: the floating window stays", Check.floating(x), "1");
        Check.due("32: focus", Check.focus(x), "bcdef");
        Check.due("32: sizes", Check.rectangle(x, 3), "0 0 50 60");
        Check.due("32: undoable", x.undo(), 4);
        Check.due("32: undone", Check.tree(x, 0) + Check.focus(x), "ab*bca");
        Check.typeText(x, "ab");
        x.read();
        Check.due("32: the first shown one is active", Check.tree(x, 0), "a*b");
        Check.typeText(x, "a-b-");
        x.read();
        Check.due("32: none is shown", x.window(0, 5) + " " + x.pane(0, 4) + x.pane(1, 4), "0 00");
        Check.typeText(x, "ba");
        x.read();
        Check.due("32: shown again, in another order", Check.tree(x, 0), "b*a");
        x.resize(0, 77, 22);
        x.read();
        Check.due("32: the size of main stays", Check.rectangle(x, 0), "0 0 77 22");
    }

    private static void write() {
        DockLayout x = Check.layout(5, "H(1:a-b*c,1000000:V(20:d-,3:e))");
        Check.typeText(x, "xyz");
        Check.due("33: length", x.write(0), 32);
        Check.due("33: text", Check.textOf(x), "H(1:a-b*c,1000000:V(20:d-,3:e*))");
        x.floatAt(4, 0, 0, 10, 10);
        Check.due("33: a floating window", Check.tree(x, 1), "e*");
        x.takeAway(4);
        Check.refused("33: no such window", x, INDEX, () -> x.write(1));
        Check.refused("33: window -1", x, INDEX, () -> x.write(-1));
        Check.refused("33: window 5", x, INDEX, () -> x.write(5));
        Check.due("33: not undoable", x.undo(), 4);
        Check.due("33: the window is back", x.window(1, 4), 1);
        DockLayout none = new DockLayout();
        Check.typeText(none, "abc");
        Check.due("33: no tree", none.write(0), 0);
        Check.due("33: the text is empty", none.character(0), -1);
        writeLongTexts();
    }

    /** The tree as it is written, with a star for each pane, has 120 characters, and then 121. */
    private static void writeLongTexts() {
        String most = "H(1000000:a,1000000:b,1000000:c,100000:d,10000:e,10000:f,10000:g,10000:h,10000:i,10000:j,100000:k,1000000:l)";
        DockLayout x = Check.layout(12, most);
        Check.due("33: 120 characters", x.write(0), 120);
        Check.due("33: the last one", x.character(119), ')');
        Check.typeText(x, most.replace(",10000:e", ",100000:e"));
        x.read();
        Check.refused("33: 121 characters", x, STATE, () -> x.write(0));
        x.show(0, false);
        Check.refused("33: 121 characters with a hidden pane", x, STATE, () -> x.write(0));
        x.dock(0, 1, 4);
        Check.due("33: fewer characters", x.write(0), 111);
    }

    private static void character() {
        DockLayout x = new DockLayout();
        Check.typeText(x, "~ H");
        Check.due("34: first", x.character(0), 126);
        Check.due("34: second", x.character(1), 32);
        Check.due("34: third", x.character(2), 72);
        Check.due("34: behind the last", x.character(3), -1);
        Check.due("34: negative", x.character(-1), -1);
        Check.due("34: far", x.character(Integer.MAX_VALUE), -1);
        Check.due("34: far below", x.character(Integer.MIN_VALUE), -1);
        x.clearText();
        Check.due("34: cleared", x.character(0), -1);
    }
}
