/** What the tests share: answers are compared, and what is wrong is printed and counted. */
final class Check {
    /** A call of the class under test. */
    interface Call {
        long make();
    }

    private static int wrong = 0;

    private Check() {
    }

    static void due(String call, long got, long want) {
        if (got != want) {
            wrong++;
            System.out.println(call + " answered " + got + ", due is " + want);
        }
    }

    static void due(String call, boolean got, boolean want) {
        due(call, got ? 1 : 0, want ? 1 : 0);
    }

    static void due(String call, String got, String want) {
        if (!got.equals(want)) {
            wrong++;
            System.out.println(call + " answered " + got + ", due is " + want);
        }
    }

    /** The call throws exactly this exception, and changes nothing that can be seen. */
    static void refused(String call, DockLayout layout, Class<?> want, Call made) {
        String before = picture(layout);
        Class<?> got = null;
        try {
            made.make();
        } catch (RuntimeException e) {
            got = e.getClass();
        }
        if (got != want) {
            wrong++;
            System.out.println(call + " threw " + got + ", due is " + want);
        }
        due(call + ", what is seen behind it", picture(layout), before);
    }

    static void finish() {
        System.out.println(wrong == 0 ? "all answers are as due" : wrong + " answers are not as due");
        if (wrong != 0) {
            System.exit(1);
        }
    }

    /** The checksum and the text together: all that can change. */
    static String picture(DockLayout layout) {
        return layout.checksum() + " " + textOf(layout);
    }

    static String textOf(DockLayout layout) {
        StringBuilder text = new StringBuilder();
        for (int k = 0; layout.character(k) != DockLayout.NONE; k++) {
            text.append((char) layout.character(k));
        }
        return text.toString();
    }

    static void typeText(DockLayout layout, String text) {
        layout.clearText();
        for (int k = 0; k < text.length(); k++) {
            layout.type(text.charAt(k));
        }
    }

    /** The tree of a window as a text; it comes into the text buffer. */
    static String tree(DockLayout layout, int window) {
        layout.write(window);
        return textOf(layout);
    }

    /** A layout with some panes, with the minimum sizes 5 and 4, and this tree in the main window. */
    static DockLayout layout(int panes, String tree) {
        DockLayout layout = new DockLayout();
        for (int k = 0; k < panes; k++) {
            layout.create(5, 4);
        }
        if (!tree.isEmpty()) {
            typeText(layout, tree);
            layout.read();
        }
        return layout;
    }

    static String rectangle(DockLayout layout, int pane) {
        return layout.rectangle(pane, 0) + " " + layout.rectangle(pane, 1) + " "
            + layout.rectangle(pane, 2) + " " + layout.rectangle(pane, 3);
    }

    static String focus(DockLayout layout) {
        StringBuilder order = new StringBuilder();
        for (int k = 0; layout.focus(k) != DockLayout.NONE; k++) {
            order.append((char) ('a' + layout.focus(k)));
        }
        return order.toString();
    }

    static String floating(DockLayout layout) {
        StringBuilder order = new StringBuilder();
        for (int k = 0; layout.floating(k) != DockLayout.NONE; k++) {
            order.append(layout.floating(k));
        }
        return order.toString();
    }
}
