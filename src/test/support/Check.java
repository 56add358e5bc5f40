/** What the tests share: answers are compared, and what is wrong is printed and counted. */
final class Check {
    static final Class<?> INDEX = IndexOutOfBoundsException.class;
    static final Class<?> ARGUMENT = IllegalArgumentException.class;
    static final Class<?> STATE = IllegalStateException.class;

    /** A call of the layout under test. */
    interface Call {
        long make();
    }

    private static int wrong = 0;

    private Check() {
    }

    static void due(String call, long got, long want) {
        if (got != want) {
            wrong++;
            System.out.println(call + " answered " + got + ", due is " + want);
        }
    }

    static void due(String call, boolean got, boolean want) {
        due(call, got ? 1 : 0, want ? 1 : 0);
    }

    static void due(String call, String got, String want) {
        if (!got.equals(want)) {
            wrong++;
            System.out.println(call + " answered " + got + ", due is " + want);
        }
    }

    /** The call throws exactly this exception, and changes nothing. */
    static void refused(String call, Run layout, Class<?> want, Call made) {
        String before = picture(layout);
        Class<?> got = null;
        try {
            made.make();
        } catch (RuntimeException e) {
            got = e.getClass();
        }
        if (got != want) {
            wrong++;
            System.out.println(call + " threw " + got + ", due is " + want);
        }
        due(call + ", what is there behind it", picture(layout), before);
    }

    static void finish() {
        System.out.println(wrong == 0 ? "all answers are as due" : wrong + " answers are not as due");
        if (wrong != 0) {
            System.exit(1);
        }
    }

    // ---- looks at a layout that change nothing there

    /** All that there is: the layout as it is seen, its text, its slots and its records. */
    static String picture(Run layout) {
        StringBuilder all = new StringBuilder(text(layout)).append('\n').append(scene(layout)).append('\n');
        for (int k = 0; k < 3; k++) {
            int slot = k;
            Run restored = layout.twin();
            all.append(answers(() -> restored.restore(slot))).append(scene(restored)).append('\n');
        }
        Run earlier = layout.twin();
        while (answers(() -> earlier.undo())) {
            all.append(scene(earlier)).append('\n');
        }
        return all.toString();
    }

    private static boolean answers(Call call) {
        try {
            call.make();
            return true;
        } catch (RuntimeException e) {
            return false;
        }
    }

    /** The checksum, the orders, and the trees with the weights of their splits. */
    private static String scene(Run layout) {
        String floats = floating(layout);
        StringBuilder all = new StringBuilder().append(layout.twin().checksum());
        all.append(' ').append(focus(layout)).append(' ').append(floats).append(' ').append(tree(layout, 0));
        for (int k = 0; k < floats.length(); k++) {
            all.append(' ').append(tree(layout, floats.charAt(k) - '0'));
        }
        return all.toString();
    }

    static String text(Run layout) {
        return textIn(layout.twin());
    }

    private static String textIn(Run twin) {
        StringBuilder text = new StringBuilder();
        for (int code = twin.character(0); code != DockLayout.NONE; code = twin.character(text.length())) {
            text.append((char) code);
        }
        return text.toString();
    }

    /** The tree of a window as a text; the text buffer stays as it is. */
    static String tree(Run layout, int window) {
        Run twin = layout.twin();
        return answers(() -> twin.write(window)) ? textIn(twin) : "a longer text";
    }

    static String rectangle(Run layout, int pane) {
        Run twin = layout.twin();
        return twin.rectangle(pane, 0) + " " + twin.rectangle(pane, 1) + " "
            + twin.rectangle(pane, 2) + " " + twin.rectangle(pane, 3);
    }

    static String focus(Run layout) {
        Run twin = layout.twin();
        StringBuilder order = new StringBuilder();
        for (int pane = twin.focus(0); pane != DockLayout.NONE; pane = twin.focus(order.length())) {
            order.append((char) ('a' + pane));
        }
        return order.toString();
    }

    static String floating(Run layout) {
        Run twin = layout.twin();
        StringBuilder order = new StringBuilder();
        for (int window = twin.floating(0); window != DockLayout.NONE; window = twin.floating(order.length())) {
            order.append(window);
        }
        return order.toString();
    }

    // ---- calls that many tests begin with

    static void typeText(Run layout, String text) {
        layout.clearText();
        for (int k = 0; k < text.length(); k++) {
            layout.type(text.charAt(k));
        }
    }

    /** A layout with some panes, with the minimum sizes 5 and 4, and this tree in the main window. */
    static Run layout(int panes, String tree) {
        Run layout = new Run();
        for (int k = 0; k < panes; k++) {
            layout.create(5, 4);
        }
        if (!tree.isEmpty()) {
            typeText(layout, tree);
            layout.read();
        }
        return layout;
    }
}
