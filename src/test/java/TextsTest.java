/** Promises 29 to 34: texts. */
public final class TextsTest {
    public static void main(String[] args) {
        type();
        clearText();
        fault();
        faultOfWeights();
        faultOfSplits();
        faultOfTabs();
        faultOfPanes();
        faultAtTheEnd();
        deepText();
        read();
        readInPlaceOfAll();
        write();
        writeInPlace();
        character();
        Check.finish();
    }

    private static void type() {
        Run x = new Run();
        for (int k = 1; k <= 120; k++) {
            Check.due("29: length", x.type(k % 95 + 32), k);
        }
        Check.refused("29: a character more", x, Check.STATE, () -> x.type(65));
        Check.refused("29: a wrong one comes first", x, Check.ARGUMENT, () -> x.type(31));
        Check.refused("29: 127", x, Check.ARGUMENT, () -> x.type(127));
        Check.refused("29: -1", x, Check.ARGUMENT, () -> x.type(-1));
        Check.due("29: no record", x.pane(x.create(1, 1), 0) + x.undo(), 1);
        Check.due("29: the text is not undone", x.character(119), 120 % 95 + 32);
        x.clearText();
        Check.due("29: the least", x.type(32), 1);
        Check.due("29: the greatest", x.type(126), 2);
    }

    private static void clearText() {
        Run x = new Run();
        Check.due("30: empty", x.clearText(), 0);
        Check.typeText(x, "abc");
        Check.due("30: length", x.clearText(), 3);
        Check.due("30: empty then", x.character(0), -1);
        Check.due("30: empty again", x.clearText(), 0);
        Check.refused("30: no record", x, Check.STATE, () -> x.undo());
        Check.typeText(x, "~".repeat(120));
        Check.due("30: full", x.clearText(), 120);
        Check.due("29: the first one again", x.type('a'), 1);
    }

    /** Panes a to d: c is in a floating window, d is in the main window, e does not exist. */
    private static Run fewPanes() {
        Run x = Check.layout(4, "d-");
        x.floatAt(2, 0, 0, 10, 10);
        return x;
    }

    /** Pairs of a text and its fault. */
    private static void faults(Run base, String... pairs) {
        for (int k = 0; k < pairs.length; k += 2) {
            Run x = base.twin();
            Check.typeText(x, pairs[k]);
            Check.due("31: " + pairs[k], x.fault(), Integer.parseInt(pairs[k + 1]));
            if (!pairs[k + 1].equals("-1")) {
                Check.refused("32: " + pairs[k], x, Check.ARGUMENT, () -> x.read());
            } else {
                Check.due("32: " + pairs[k], x.read() > 0, true);
            }
        }
    }

    private static void fault() {
        faults(fewPanes(),
            "", "0", "a", "-1", "ab", "-1", "a-b*d", "-1", "d", "-1", " a", "0", "a ", "1", "b-*", "2", "b*-", "2",
            "b**", "2", "b--", "2", "a*b*", "3", "a*b-d*", "5", "-a", "0", "*", "0", "A", "0", "H", "1", "H(", "2",
            "H)", "1", "Ha", "1", "h(", "0", "H(0", "2", "H(:", "2", "H(,", "2", "H(a", "2", "H(1", "3", "H(1,", "3",
            "H(01", "2", "H(10:", "5", "H(1:)", "4", "H(1:,", "4", "H(1:a", "5", "H(1:a)", "5", "H(1:a,", "6",
            "H(1:a,)", "6", "H(1:a,1)", "7", "H(1:a,1:b", "9", "H(1:a,1:b)", "-1", "V(1:a,1:b)", "-1",
            "H(1:a,1:b))", "10", "H(1:a,1:b)a", "10", "H(1:a,1:b)-", "10", "H(1:a,1:b,", "10", "H(1:a,1:b,1:d)", "-1",
            "H(1:a1:b)", "5", "H(1:a,1:b:", "9", "H(1:V(1:a,2:b),3:d)", "-1", "H(1:H(1:a,2:b),3:d)", "-1",
            "H(1:V(1:a),3:d)", "9", "H(1:V(1:a,2:b)3:d)", "14", "a,b", "1", "a)", "1", "H(1:ab*d-,1:V(", "14",
            "H(1 :a,1:b)", "3", "H(+1:a,1:b)", "2");
    }

    /** "a number with 1 to 7 digits, the first of which is not 0, and at most 1000000". */
    private static void faultOfWeights() {
        faults(fewPanes(),
            "H(1:a,1:b)", "-1", "H(9:a,10:b)", "-1", "H(123456:a,999999:b)", "-1", "H(1000000:a,1000000:b)", "-1",
            "H(:a,1:b)", "2", "H(0:a,1:b)", "2", "H(00:a,1:b)", "2", "H(01:a,1:b)", "2", "H(-1:a,1:b)", "2",
            "H(1000001:a,1:b)", "8", "H(1000009:a,1:b)", "8", "H(1000010:a,1:b)", "8", "H(1000100:a,1:b)", "8",
            "H(1100000:a,1:b)", "8", "H(2000000:a,1:b)", "8", "H(9999999:a,1:b)", "8", "H(10000000:a,1:b)", "9",
            "H(99999999:a,1:b)", "8", "H(4294967297:a,1:b)", "8", "H(2147483648:a,1:b)", "8",
            "H(1000000", "9", "H(100000", "8", "H(1:a,0:b)", "6", "H(1:a,1000001:b)", "12", "H(1:a,1000000:b)", "-1",
            "H(1:a,1:b,0:d)", "10", "H(1:a,1:b,1000000:d)", "-1", "H(1a:a,1:b)", "3", "H(1.5:a,1:b)", "3", "H(1::a,1:b)", "4");
    }

    /** "at least two children" and each sign of a split at its place. */
    private static void faultOfSplits() {
        faults(fewPanes(),
            "V", "1", "V(", "2", "V()", "2", "V(1", "3", "V(1:", "4", "V(1:a", "5", "V(1:a)", "5", "V(1:a,", "6", "V(1:a,)", "6",
            "V(1:a,2", "7", "V(1:a,2:", "8", "V(1:a,2:)", "8", "V(1:a,2:b", "9", "V(1:a,2:b)", "-1", "V(1:a,2:b),", "10",
            "V(1:a,2:b)V(", "10", "V(1:a,2:b,)", "10", "V(1:a,2:b,3:d)", "-1", "V(1:a,2:b;", "9", "v(1:a,2:b)", "0",
            "HV(1:a,2:b)", "1",
            "H(1:V", "5", "H(1:V(", "6", "H(1:V(2:a,3:b)", "14", "H(1:V(2:a,3:b),", "15", "H(1:V(2:a,3:b))", "14",
            "H(1:V(2:a,3:b),4:d", "18", "H(1:V(2:a,3:b),4:d)", "-1", "H(1:a,4:V(2:b,3:d))", "-1", "H(1:a,4:V(2:b,3:d)", "18",
            "H(1:a,4:V(2:b)", "13", "(1:a,2:b)", "0", "H[1:a,2:b]", "1", "(a)", "0", "1:a", "0", "aH(1:b,1:d)", "1");
    }

    /** "tab = pane [ - | * ]", "only one * in a group". */
    private static void faultOfTabs() {
        faults(fewPanes(),
            "a-", "-1", "a*", "-1", "a-b-d-", "-1", "a*b-d-", "-1", "a-b-d*", "-1", "abd*", "-1",
            "a*b*d", "3", "a*bd*", "4", "ab*d*", "4",
            "a-*", "2", "a*-", "2", "a--", "2", "a**", "2", "-", "0", "*a", "0", "a+", "1",
            "H(1:a*,1:b*)", "-1", "H(1:a*d*,1:b)", "7",
            "H(1:a*d,1:b*)", "-1", "H(1:-,1:b)", "4", "H(1:a,1:*)", "8", "H(1:a-,1:b-)", "-1", "H(1:a*,1:V(1:b*,1:d*))", "-1");
    }

    /** "only panes that exist and are not placed in floating windows are allowed, each at most once". */
    private static void faultOfPanes() {
        faults(fewPanes(),
            "c", "0", "e", "0", "l", "0", "m", "0", "`", "0", "{", "0", "A", "0", "D", "0", "ac", "1", "ae", "1", "aa", "1",
            "a*a", "2", "aba", "2",
            "H(1:a,1:a)", "8", "H(1:ab,1:Va", "10", "H(1:a,1:e)", "8", "H(1:a,1:c)", "8", "H(1:abd,1:H(1:", "14",
            "H(1:a,1:bd,1:a", "13", "H(1:a,1:ba", "9");
        Run x = fewPanes();
        Check.typeText(x, "c");
        x.takeAway(2);
        Check.due("31: not in a floating window any more", x.fault(), -1);
        x.dock(2, 3, 0);
        Check.due("31: in the main window", x.fault(), -1);
        x.floatAt(2, 0, 0, 10, 10);
        x.show(2, false);
        Check.due("31: hidden in a floating window", x.fault(), 0);
        x.takeAway(2);
        x.remove(2);
        Check.due("31: does not exist any more", x.fault(), 0);
        x.create(1, 1);
        Check.due("31: exists again", x.fault(), -1);
        Check.typeText(x, "a");
        x.remove(0);
        Check.due("31: pane 0 does not exist any more", x.fault(), 0);
        faults(Check.layout(12, ""), "abcdefghijkl", "-1", "lkjihgfedcba", "-1", "abcdefghijklm", "12",
            "abcdefghijkla", "12", "l", "-1", "abcdefghijkl-*", "13");
        faults(new Run(), "a", "0", "l", "0", "H(1:a", "4", "H(1:H(1:V(", "10");
    }

    /** "it is the length of the text if the text ends too early", also if the text is full. */
    private static void faultAtTheEnd() {
        String whole = "H(10:a-b*,200:V(1:d,3:H(4:c,5:ef-)),1000000:g)";
        for (int length = 0; length <= whole.length(); length++) {
            Run x = Check.layout(7, "");
            Check.typeText(x, whole.substring(0, length));
            Check.due("31: " + length + " characters of it", x.fault(), length < whole.length() ? length : -1);
        }
        String most = "H(1000000:a*,1000000:b*,1000000:c*,100000:d*,10000:e*,10000:f*,"
            + "10000:g*,10000:h*,10000:i*,10000:j*,100000:k*,1000000:l*)";
        Check.due("31: its length", most.length(), 120);
        faults(Check.layout(12, ""), most, "-1", most.substring(0, 119) + "(", "119", most.replace(":l*)", "0:l*"), "116",
            most.replace("10000:e*", "100000:e*").substring(0, 120), "120", most.substring(0, 119), "119");
        Run x = Check.layout(12, "");
        Check.typeText(x, most);
        Check.refused("29: it is full", x, Check.STATE, () -> x.type(')'));
        Check.due("32: all panes", x.read(), 12);
        Check.due("33: written", x.write(0), 120);
        Check.due("33: the same", Check.text(x), most);
    }

    private static void deepText() {
        String splits = "H(1:".repeat(30);
        String chain = "H(1:a,1:V(1:b,1:H(1:c,1:V(1:d,1:H(1:e,1:V(1:f,1:H(1:g,1:V(1:h,1:H(1:i,1:V(1:j,1:H(1:k,1:l)))))))))))";
        faults(Check.layout(12, ""), splits, "120", splits.substring(0, 108) + "a,1:a,1:b", "112",
            splits.substring(0, 108) + "ab*c*", "112", splits.substring(0, 116) + "aaaa", "117", splits.substring(0, 116) + "a)))", "117", chain, "-1");
        Run x = Check.layout(12, chain);
        Check.due("33: eleven splits", Check.tree(x, 0), chain.replaceAll("([a-l])", "$1*"));
        Run y = Check.layout(12, "");
        y.floatAt(0, 0, 0, 10, 10);
        Check.typeText(y, "V(1:b,1:H(1:c,1:V(1:d,1:H(1:e,1:V(1:f,1:H(1:g,1:V(1:h,1:H(1:i,1:V(1:j,1:H(1:k,1:l))))))))))");
        Check.due("31: ten splits beside a floating window", y.fault(), -1);
        Check.due("32: eleven panes", y.read(), 11);
        Check.due("12: and one", y.window(0, 4) + y.window(1, 4), 12);
    }

    /** "Panes that were placed there, but are not in the text, are not placed then." */
    private static void readInPlaceOfAll() {
        Run x = Check.layout(12, "H(1:abc,1:V(1:de*,1:fg-))");
        x.floatAt(8, 0, 0, 10, 10);
        x.floatAt(9, 0, 0, 10, 10);
        x.activate(4);
        Check.typeText(x, "l");
        Check.due("32: one pane in place of seven", x.read(), 1);
        Check.due("12: one pane", x.window(0, 4), 1);
        for (int pane = 0; pane < 7; pane++) {
            Check.due("6: not placed", x.pane(pane, 2), -1);
            Check.due("6: not hidden", x.pane(pane, 3), 0);
        }
        Check.due("32: focus", Check.focus(x), "jil");
        Check.due("32: the windows stay", Check.floating(x), "12");
        Check.typeText(x, "H(5:g-f*,7:edcba)");
        Check.due("32: seven in place of one", x.read(), 7);
        Check.due("32: focus in ascending order behind", Check.focus(x), "jiabcdefg");
        Check.due("32: the tree", Check.tree(x, 0), "H(5:g-f*,7:e*dcba)");
        Check.due("7: sizes", Check.rectangle(x, 5) + ", " + Check.rectangle(x, 4), "0 0 50 60, 51 0 69 60");
        Check.due("32: the text stays", Check.text(x), "H(5:g-f*,7:edcba)");
        x.activate(0);
        x.activate(2);
        Check.due("32: the same text again", x.read(), 7);
        Check.due("32: focus as it was", Check.focus(x), "cajibdefg");
        Check.due("32: active as in the text", Check.tree(x, 0), "H(5:g-f*,7:e*dcba)");
        Run empty = Check.layout(1, "");
        Check.typeText(empty, "a-");
        Check.due("32: in place of no tree", empty.read(), 1);
        Check.due("32: a tree that is not shown", Check.tree(empty, 0) + empty.kindAt(5, 5), "a-0");
    }

    private static void read() {
        Run x = Check.layout(6, "ab");
        x.floatAt(2, 0, 0, 10, 10);
        x.activate(1);
        Check.typeText(x, "H(5:d-e,7:bf*)");
        Check.due("32: panes", x.read(), 4);
        Check.due("32: the text stays", Check.text(x), "H(5:d-e,7:bf*)");
        Check.due("32: tree", Check.tree(x, 0), "H(5:d-e*,7:bf*)");
        Check.due("32: not placed then", x.pane(0, 2), -1);
        Check.due("32: the floating window stays", Check.floating(x), "1");
        Check.due("32: focus", Check.focus(x), "bcdef");
        Check.due("32: sizes", Check.rectangle(x, 3), "0 0 50 60");
        Check.due("32: undoable", x.undo(), 4);
        Check.due("32: undone", Check.tree(x, 0) + Check.focus(x), "ab*bca");
        Check.typeText(x, "ab");
        x.read();
        Check.due("32: the first shown one is active", Check.tree(x, 0), "a*b");
        Check.typeText(x, "a-b-");
        x.read();
        Check.due("32: none is shown", x.window(0, 5) + " " + x.pane(0, 4) + x.pane(1, 4), "0 00");
        Check.typeText(x, "ba");
        x.read();
        Check.due("32: shown again, in another order", Check.tree(x, 0), "b*a");
        x.resize(0, 77, 22);
        x.read();
        Check.due("32: the size of main stays", Check.rectangle(x, 0), "0 0 77 22");
    }

    private static void write() {
        Run x = Check.layout(5, "H(1:a-b*c,1000000:V(20:d-,3:e))");
        Check.typeText(x, "xyz");
        Check.due("33: length", x.write(0), 32);
        Check.due("33: text", Check.text(x), "H(1:a-b*c,1000000:V(20:d-,3:e*))");
        x.floatAt(4, 0, 0, 10, 10);
        Check.due("33: a floating window", Check.tree(x, 1), "e*");
        x.takeAway(4);
        Check.refused("33: no such window", x, Check.INDEX, () -> x.write(1));
        Check.refused("33: window -1", x, Check.INDEX, () -> x.write(-1));
        Check.refused("33: window 5", x, Check.INDEX, () -> x.write(5));
        Check.due("33: not undoable", x.undo(), 4);
        Check.due("33: the window is back", x.window(1, 4), 1);
        Run none = new Run();
        Check.typeText(none, "abc");
        Check.due("33: no tree", none.write(0), 0);
        Check.due("33: the text is empty", none.character(0), -1);
        writeLongTexts();
    }

    /** The tree as it is written, with a star for each pane, has 120 characters, and then 121. */
    private static void writeLongTexts() {
        String most = "H(1000000:a,1000000:b,1000000:c,100000:d,10000:e,10000:f,10000:g,10000:h,10000:i,10000:j,100000:k,1000000:l)";
        Run x = Check.layout(12, most);
        Check.due("33: 120 characters", x.write(0), 120);
        Check.due("33: the last one", x.character(119), ')');
        Check.typeText(x, most.replace(",10000:e", ",100000:e"));
        x.read();
        Check.refused("33: 121 characters", x, Check.STATE, () -> x.write(0));
        x.show(0, false);
        Check.refused("33: 121 characters with a hidden pane", x, Check.STATE, () -> x.write(0));
        x.dock(0, 1, 4);
        Check.due("33: fewer characters", x.write(0), 111);
    }

    /** "(0 if the window has no tree)": the text is empty then; and what is refused leaves it. */
    private static void writeInPlace() {
        Run x = Check.layout(3, "");
        Check.typeText(x, "!".repeat(120));
        Check.due("33: no tree", x.write(0), 0);
        Check.due("33: the text is empty", Check.text(x), "");
        x.start(0);
        Check.typeText(x, "!".repeat(120));
        Check.due("33: in place of a full text", x.write(0), 2);
        Check.due("33: the tree", Check.text(x), "a*");
        x.show(0, false);
        x.write(0);
        Check.due("33: a hidden one", Check.text(x), "a-");
        x.floatAt(1, 0, 0, 20, 20);
        x.dock(2, 1, 1);
        Check.due("33: window 1", x.write(1), 18);
        Check.due("33: its tree", Check.text(x), "H(1000:b*,1000:c*)");
        Check.due("33: not for the main window", x.fault(), 7);
        Run weights = Check.layout(8, "H(1:a,10:b,100:c,999:d,1000:e,99999:f,100000:g,1000000:h)");
        Check.due("33: weights of each length", Check.tree(weights, 0),
            "H(1:a*,10:b*,100:c*,999:d*,1000:e*,99999:f*,100000:g*,1000000:h*)");
    }

    private static void character() {
        Run x = new Run();
        Check.typeText(x, "~ H");
        Check.due("34: first", x.character(0), 126);
        Check.due("34: second", x.character(1), 32);
        Check.due("34: third", x.character(2), 72);
        Check.due("34: behind the last", x.character(3), -1);
        Check.due("34: negative", x.character(-1), -1);
        Check.due("34: far", x.character(Integer.MAX_VALUE), -1);
        Check.due("34: far below", x.character(Integer.MIN_VALUE), -1);
        x.clearText();
        Check.due("34: cleared", x.character(0), -1);
    }
}
