import java.util.Arrays;

/**
 * Runs of calls that a fixed sequence of numbers picks, on the class and on the reference of
 * src/test/support, which is built in another way; every answer and every exception is compared.
 */
public final class RandomRunsTest {
    private static final String[] NAMES = {
        "create", "remove", "setMinimum", "panes", "pane", "rectangle", "tab", "resize", "move", "raise",
        "window", "floating", "dock", "start", "floatAt", "takeAway", "show", "activate", "moveTab", "drag",
        "even", "focus", "kindAt", "paneAt", "dropAt", "store", "restore", "type", "clearText", "fault",
        "read", "write", "character", "undo", "checksum"
    };
    /** How often each of them is called; several rows, for runs of different kinds. */
    private static final int[][] OFTEN = {
        {4, 1, 2, 1, 1, 1, 1, 2, 2, 2, 1, 1, 40, 2, 4, 1, 6, 4, 4, 20, 2, 1, 3, 4, 5, 2, 1, 0, 0, 0, 0, 1, 1, 4, 0},
        {1, 1, 2, 1, 1, 1, 1, 3, 2, 2, 1, 1, 30, 2, 8, 4, 4, 5, 5, 12, 2, 1, 3, 4, 5, 4, 4, 0, 0, 0, 0, 0, 0, 4, 0},
        {3, 1, 2, 1, 1, 1, 1, 2, 1, 1, 1, 1, 8, 1, 2, 1, 3, 3, 3, 14, 1, 1, 2, 2, 3, 2, 2, 0, 1, 4, 15, 4, 1, 3, 0},
        {4, 0, 2, 0, 0, 0, 0, 2, 0, 0, 0, 0, 40, 0, 1, 0, 2, 3, 0, 40, 0, 0, 1, 1, 1, 0, 0, 0, 0, 0, 0, 9, 0, 1, 0},
    };
    /** The panes and the windows that exist, as far as the class says. */
    private static int panesThere;
    private static int windowsThere;
    private static long seed;

    private static int random(int bound) {
        seed = seed * 6364136223846793005L + 1442695040888963407L;
        return (int) ((seed >>> 33) % bound);
    }

    private static int between(int least, int most) {
        return least + random(most - least + 1);
    }

    public static void main(String[] args) {
        int runs = args.length > 0 ? Integer.parseInt(args[0]) : 300;
        for (int run = 1; run <= runs; run++) {
            seed = run * 7919L;
            random(2);
            if (!sameRun(run)) {
                System.out.println("the answers differ");
                System.exit(1);
            }
        }
        System.out.println(runs + " runs, all answers are the same");
    }

    private static boolean sameRun(int run) {
        DockLayout layout = new DockLayout();
        Reference reference = new Reference();
        StringBuilder told = new StringBuilder();
        int[] often = OFTEN[run % OFTEN.length];
        int greatest = between(2, 14);
        for (int k = random(3) == 0 ? 0 : between(2, 12); k > 0; k--) {
            int[] a = {between(1, greatest), between(1, greatest), 0, 0, 0};
            if (!sameCall(layout, reference, 0, a, told) || !sameCall(layout, reference, 13, a, told)) {
                return false;
            }
        }
        for (int call = 0; call < 485; call++) {
            int op = pick(often);
            look(layout);
            if (op == 30 && random(2) == 0) {
                sameText(layout, reference, randomText());
            }
            if (!sameCall(layout, reference, op, arguments(op), told)
                    || !sameCall(layout, reference, 34, new int[5], told) || !sameLists(layout, reference)) {
                System.out.println("run " + run + ":" + told);
                return false;
            }
        }
        return true;
    }

    private static boolean sameLists(DockLayout layout, Reference reference) {
        for (int k = -1; k < 13; k++) {
            if (layout.focus(k) != reference.focus(k) || layout.floating(k) != reference.floating(k)) {
                return false;
            }
        }
        for (int k = -1; k <= 120; k++) {
            if (layout.character(k) != reference.character(k)) {
                return false;
            }
        }
        for (int k = 0; k < 144; k++) {
            if ((reference.panes() >> k / 12 & 1) == 1 && layout.tab(k / 12, k % 12) != reference.tab(k / 12, k % 12)) {
                return false;
            }
        }
        return true;
    }

    private static int pick(int[] often) {
        int sum = 0;
        for (int n : often) {
            sum += n;
        }
        int at = random(sum);
        for (int op = 0; op < often.length; op++) {
            at -= often[op];
            if (at < 0) {
                return op;
            }
        }
        return 0;
    }

    private static boolean sameCall(DockLayout x, Reference r, int op, int[] a, StringBuilder told) {
        String got = answer(x, null, op, a);
        String want = answer(null, r, op, a);
        told.append('\n').append(NAMES[op]).append(' ').append(Arrays.toString(a)).append(" -> ").append(got);
        if (!got.equals(want)) {
            told.append(", due is ").append(want);
            System.out.println(told);
        }
        return got.equals(want);
    }

    private static String answer(DockLayout x, Reference r, int op, int[] a) {
        try {
            return "" + (r == null ? ofClass(x, op, a) : ofReference(r, op, a));
        } catch (RuntimeException e) {
            return e.getClass().getSimpleName();
        }
    }

    private static int pane() {
        return random(40) == 0 ? between(-2, 14) : random(20) == 0 ? random(12) : oneOf(panesThere, 12);
    }

    private static int window() {
        return random(12) == 0 ? between(-1, 6) : oneOf(windowsThere, 5);
    }

    private static int oneOf(int mask, int bound) {
        int number = random(bound);
        for (int k = 0; k < bound && (mask >> number & 1) == 0; k++) {
            number = (number + 1) % bound;
        }
        return number;
    }

    private static void look(DockLayout layout) {
        panesThere = layout.panes();
        windowsThere = 1;
        for (int k = 0; k < 4; k++) {
            windowsThere |= layout.floating(k) == DockLayout.NONE ? 0 : 1 << layout.floating(k);
        }
    }

    private static int extent() {
        int kind = random(10);
        return kind == 0 ? between(8, 11) : kind == 1 ? between(398, 401) : between(10, 130);
    }

    private static int corner() {
        return random(8) == 0 ? between(-402, 402) : between(-20, 80);
    }

    private static int[] arguments(int op) {
        int[] a = new int[5];
        switch (op) {
            case 0: return new int[] {between(0, 14), between(1, 9), 0, 0, 0};
            case 2: return new int[] {pane(), between(0, 41), between(0, 41), 0, 0};
            case 4: return new int[] {pane(), between(-1, 9), 0, 0, 0};
            case 5: return new int[] {pane(), between(-1, 4), 0, 0, 0};
            case 7: return new int[] {window(), extent(), extent(), 0, 0};
            case 8: return new int[] {window(), corner(), corner(), 0, 0};
            case 9: case 31: return new int[] {window(), 0, 0, 0, 0};
            case 10: return new int[] {window(), between(-1, 8), 0, 0, 0};
            case 11: case 21: case 32: return new int[] {between(-2, 13), 0, 0, 0, 0};
            case 12: return new int[] {pane(), pane(), random(30) == 0 ? between(-1, 5) : random(5), 0, 0};
            case 14: return new int[] {pane(), corner(), corner(), extent(), extent()};
            case 16: return new int[] {pane(), random(2), 0, 0, 0};
            case 6: case 18: return new int[] {pane(), between(-1, random(2) == 0 ? 2 : 12), 0, 0, 0};
            case 19: return new int[] {pane(), between(random(20) == 0 ? -1 : 0, random(20) == 0 ? 4 : 3),
                random(20) == 0 ? between(-402, 402) : between(-25, 25), 0, 0};
            case 22: case 23: case 24: return new int[] {between(-25, 125), between(-25, 65), 0, 0, 0};
            case 25: case 26: return new int[] {between(random(10) == 0 ? -1 : 0, random(10) == 0 ? 3 : 2), 0, 0, 0, 0};
            case 27: return new int[] {between(30, 127), 0, 0, 0, 0};
            default:
                a[0] = pane();
                return a;
        }
    }

    private static void sameText(DockLayout layout, Reference reference, String text) {
        layout.clearText();
        reference.clearText();
        for (int k = 0; k < text.length() && k < 120; k++) {
            layout.type(text.charAt(k));
            reference.type(text.charAt(k));
        }
    }

    private static int lettersUsed;

    private static String randomText() {
        lettersUsed = 0;
        StringBuilder text = new StringBuilder(randomTree(0));
        if (random(3) == 0 && text.length() > 0) {
            String signs = "HV(),:0123456789abcdefghijklm-* ";
            char sign = signs.charAt(random(signs.length()));
            int at = random(text.length());
            switch (random(4)) {
                case 0: text.setCharAt(at, sign); break;
                case 1: text.insert(at, sign); break;
                case 2: text.deleteCharAt(at); break;
                default: text.setLength(at); break;
            }
        }
        return text.toString();
    }

    private static String randomTree(int depth) {
        StringBuilder text = new StringBuilder();
        if (random(3) > 0 && depth < 4 || random(60) == 0 && depth < 30) {
            text.append(random(2) == 0 ? "H(" : "V(");
            int children = between(2, 3);
            for (int k = 0; k < children; k++) {
                int weight = random(12) == 0 ? between(999998, 1000002) : between(1, random(2) == 0 ? 9 : 2000);
                text.append(k == 0 ? "" : ",").append(weight).append(':').append(randomTree(depth + 1));
            }
            return text.append(')').toString();
        }
        boolean star = false;
        for (int k = between(1, 2); k > 0; k--) {
            lettersUsed += random(25) == 0 ? 0 : 1;
            text.append((char) ('a' + Math.max(0, lettersUsed - 1) % 12));
            int mark = random(5);
            if (mark == 0) {
                text.append('-');
            } else if (mark == 1 && (!star || random(9) == 0)) {
                text.append('*');
                star = true;
            }
        }
        return text.toString();
    }

    private static long ofClass(DockLayout x, int op, int[] a) {
        switch (op) {
            case 0: return x.create(a[0], a[1]);
            case 1: return x.remove(a[0]);
            case 2: return x.setMinimum(a[0], a[1], a[2]);
            case 3: return x.panes();
            case 4: return x.pane(a[0], a[1]);
            case 5: return x.rectangle(a[0], a[1]);
            case 6: return x.tab(a[0], a[1]);
            case 7: return x.resize(a[0], a[1], a[2]);
            case 8: return x.move(a[0], a[1], a[2]);
            case 9: return x.raise(a[0]);
            case 10: return x.window(a[0], a[1]);
            case 11: return x.floating(a[0]);
            case 12: return x.dock(a[0], a[1], a[2]);
            case 13: return x.start(a[0]);
            case 14: return x.floatAt(a[0], a[1], a[2], a[3], a[4]);
            case 15: return x.takeAway(a[0]);
            case 16: return x.show(a[0], a[1] == 1) ? 1 : 0;
            case 17: return x.activate(a[0]);
            case 18: return x.moveTab(a[0], a[1]);
            case 19: return x.drag(a[0], a[1], a[2]);
            case 20: return x.even(a[0]);
            case 21: return x.focus(a[0]);
            case 22: return x.kindAt(a[0], a[1]);
            case 23: return x.paneAt(a[0], a[1]);
            case 24: return x.dropAt(a[0], a[1]);
            case 25: return x.store(a[0]);
            case 26: return x.restore(a[0]);
            case 27: return x.type(a[0]);
            case 28: return x.clearText();
            case 29: return x.fault();
            case 30: return x.read();
            case 31: return x.write(a[0]);
            case 32: return x.character(a[0]);
            case 33: return x.undo();
            default: return x.checksum();
        }
    }

    private static long ofReference(Reference x, int op, int[] a) {
        switch (op) {
            case 0: return x.create(a[0], a[1]);
            case 1: return x.remove(a[0]);
            case 2: return x.setMinimum(a[0], a[1], a[2]);
            case 3: return x.panes();
            case 4: return x.pane(a[0], a[1]);
            case 5: return x.rectangle(a[0], a[1]);
            case 6: return x.tab(a[0], a[1]);
            case 7: return x.resize(a[0], a[1], a[2]);
            case 8: return x.move(a[0], a[1], a[2]);
            case 9: return x.raise(a[0]);
            case 10: return x.window(a[0], a[1]);
            case 11: return x.floating(a[0]);
            case 12: return x.dock(a[0], a[1], a[2]);
            case 13: return x.start(a[0]);
            case 14: return x.floatAt(a[0], a[1], a[2], a[3], a[4]);
            case 15: return x.takeAway(a[0]);
            case 16: return x.show(a[0], a[1] == 1) ? 1 : 0;
            case 17: return x.activate(a[0]);
            case 18: return x.moveTab(a[0], a[1]);
            case 19: return x.drag(a[0], a[1], a[2]);
            case 20: return x.even(a[0]);
            case 21: return x.focus(a[0]);
            case 22: return x.kindAt(a[0], a[1]);
            case 23: return x.paneAt(a[0], a[1]);
            case 24: return x.dropAt(a[0], a[1]);
            case 25: return x.store(a[0]);
            case 26: return x.restore(a[0]);
            case 27: return x.type(a[0]);
            case 28: return x.clearText();
            case 29: return x.fault();
            case 30: return x.read();
            case 31: return x.write(a[0]);
            case 32: return x.character(a[0]);
            case 33: return x.undo();
            default: return x.checksum();
        }
    }
}
