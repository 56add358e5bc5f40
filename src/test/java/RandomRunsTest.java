/**
 * Runs of calls that a fixed sequence of numbers picks, on the class and on the reference of
 * src/test/support, which is built in another way; every answer and every exception is compared.
 */
public final class RandomRunsTest {
    private static final String[] NAMES = {
        "create", "remove", "setMinimum", "panes", "pane", "rectangle", "tab", "resize", "move", "raise",
        "window", "floating", "dock", "start", "floatAt", "takeAway", "show", "activate", "moveTab", "drag",
        "even", "focus", "kindAt", "paneAt", "dropAt", "store", "restore", "type", "clearText", "fault",
        "read", "write", "character", "undo", "checksum"
    };
    /** How often each of them is called; several rows, for runs of different kinds. */
    private static final int[][] OFTEN = {
        {4, 1, 2, 1, 1, 1, 1, 2, 2, 2, 1, 1, 40, 2, 4, 1, 6, 4, 4, 20, 2, 1, 3, 4, 5, 2, 1, 0, 0, 0, 0, 1, 1, 4, 0},
        {1, 1, 2, 1, 1, 1, 1, 3, 2, 2, 1, 1, 30, 2, 8, 4, 4, 5, 5, 12, 2, 1, 3, 4, 5, 4, 4, 0, 0, 0, 0, 0, 0, 4, 0},
        {3, 1, 2, 1, 1, 1, 1, 2, 1, 1, 1, 1, 8, 1, 2, 1, 3, 3, 3, 14, 1, 1, 2, 2, 3, 2, 2, 0, 1, 4, 15, 4, 1, 3, 0},
        {4, 0, 2, 0, 0, 0, 0, 2, 0, 0, 0, 0, 40, 0, 1, 0, 2, 3, 0, 40, 0, 0, 1, 1, 1, 0, 0, 0, 0, 0, 0, 9, 0, 1, 0},
    };
    private static final int MOST_CALLS = 512;
    /** A text is looked at by up to 121 calls more. */
    private static final int ROOM_TO_LOOK = 130;
    /** The panes and the windows that exist. */
    private static int panesThere;
    private static int windowsThere;
    private static long seed;

    private static int random(int bound) {
        seed = seed * 6364136223846793005L + 1442695040888963407L;
        return (int) ((seed >>> 33) % bound);
    }

    private static int between(int least, int most) {
        return least + random(most - least + 1);
    }

    public static void main(String[] args) {
        int runs = args.length > 0 ? Integer.parseInt(args[0]) : 1200;
        for (int run = 1; run <= runs; run++) {
            seed = run * 7919L;
            random(2);
            if (!sameRun(run)) {
                System.out.println("the answers differ");
                System.exit(1);
            }
        }
        System.out.println(runs + " runs, all answers are the same");
    }

    /** Half of the runs ask for the checksum behind each call, the others make more calls instead. */
    private static boolean sameRun(int run) {
        Run layout = new Run();
        Reference reference = new Reference();
        StringBuilder told = new StringBuilder("run " + run + ":");
        int[] often = OFTEN[run % OFTEN.length];
        boolean sums = run / OFTEN.length % 2 == 0;
        int greatest = between(2, 14);
        for (int k = random(3) == 0 ? 0 : between(2, 12); k > 0; k--) {
            int[] a = {between(1, greatest), between(1, greatest), 0, 0, 0};
            if (!sameCall(layout, reference, 0, a, told) || !sameCall(layout, reference, 13, a, told)) {
                return false;
            }
        }
        while (layout.callCount() < MOST_CALLS - ROOM_TO_LOOK) {
            if (!sameStep(layout, reference, often, sums, told)) {
                return false;
            }
        }
        return sameCall(layout, reference, 34, new int[5], told) && sameLists(layout, reference, told);
    }

    private static boolean sameStep(Run layout, Reference reference, int[] often, boolean sums, StringBuilder told) {
        int op = pick(often);
        look(reference);
        if (op == 30 && random(2) == 0) {
            String text = randomText();
            text = text.substring(0, Math.min(120, text.length()));
            if (layout.callCount() + text.length() < MOST_CALLS - ROOM_TO_LOOK) {
                told.append("\ntext ").append(text);
                typeText(layout, reference, text);
            }
        }
        return sameCall(layout, reference, op, arguments(op), told)
            && (!sums || sameCall(layout, reference, 34, new int[5], told));
    }

    /** What lies in no checksum: the texts, the trees, the tabs, and the orders beyond their ends. */
    private static boolean sameLists(Run layout, Reference reference, StringBuilder told) {
        if (!sameText(told, "the text", Check.text(layout), textOf(reference))) {
            return false;
        }
        Run twin = layout.twin();
        for (int k = 0; k < 40; k++) {
            if (!sameCall(twin, reference, 6, new int[] {k % 12, k / 12 - 1}, told)
                    || !sameCall(twin, reference, k % 2 == 0 ? 11 : 21, new int[] {k / 2 - 2}, told)) {
                return false;
            }
        }
        for (int window = 0; window < 5; window++) {
            if (answer(null, reference, "", 31, new int[] {window}).matches("[0-9]+")
                    && !sameText(told, "tree " + window, Check.tree(layout, window), textOf(reference))) {
                return false;
            }
        }
        return true;
    }

    private static String textOf(Reference reference) {
        StringBuilder text = new StringBuilder();
        for (int code = reference.character(0); code != Reference.NONE; code = reference.character(text.length())) {
            text.append((char) code);
        }
        return text.toString();
    }

    private static boolean sameText(StringBuilder told, String what, String got, String want) {
        if (!got.equals(want)) {
            System.out.println(told.append('\n').append(what + " is " + got + ", due is " + want));
        }
        return got.equals(want);
    }

    private static int pick(int[] often) {
        int sum = 0;
        for (int n : often) {
            sum += n;
        }
        int at = random(sum);
        for (int op = 0; op < often.length; op++) {
            at -= often[op];
            if (at < 0) {
                return op;
            }
        }
        return 0;
    }

    private static boolean sameCall(Run x, Reference r, int op, int[] a, StringBuilder told) {
        String line = NAMES[op];
        for (int argument : a) {
            line += " " + argument;
        }
        String got = answer(x, null, line, op, a);
        String want = answer(null, r, line, op, a);
        told.append('\n').append(line).append(" -> ").append(got);
        if (!got.equals(want)) {
            System.out.println(told.append(", due is ").append(want));
        }
        return got.equals(want);
    }

    private static String answer(Run x, Reference r, String line, int op, int[] a) {
        try {
            return "" + (r == null ? x.call(line) : Run.callByName(r, NAMES[op], a));
        } catch (RuntimeException e) {
            return e.getClass().getSimpleName();
        }
    }

    private static int pane() {
        return random(40) == 0 ? between(-2, 14) : random(20) == 0 ? random(12) : oneOf(panesThere, 12);
    }

    private static int window() {
        return random(12) == 0 ? between(-1, 6) : oneOf(windowsThere, 5);
    }

    private static int oneOf(int mask, int bound) {
        int number = random(bound);
        for (int k = 0; k < bound && (mask >> number & 1) == 0; k++) {
            number = (number + 1) % bound;
        }
        return number;
    }

    private static void look(Reference layout) {
        panesThere = layout.panes();
        windowsThere = 1;
        for (int k = 0; k < 4; k++) {
            windowsThere |= layout.floating(k) == Reference.NONE ? 0 : 1 << layout.floating(k);
        }
    }

    private static int extent() {
        int kind = random(10);
        return kind == 0 ? between(8, 11) : kind == 1 ? between(398, 401) : between(10, 130);
    }

    private static int corner() {
        return random(8) == 0 ? between(-402, 402) : between(-20, 80);
    }

    private static int[] arguments(int op) {
        int[] a = likelyArguments(op);
        if (random(60) == 0) {
            a[random(5)] = random(2) == 0 ? Integer.MIN_VALUE : Integer.MAX_VALUE;
        }
        return a;
    }

    private static int[] likelyArguments(int op) {
        int[] a = new int[5];
        switch (op) {
            case 0: return new int[] {between(0, 14), between(1, 9), 0, 0, 0};
            case 2: return new int[] {pane(), between(0, 41), between(0, 41), 0, 0};
            case 4: return new int[] {pane(), between(-1, 9), 0, 0, 0};
            case 5: return new int[] {pane(), between(-1, 4), 0, 0, 0};
            case 7: return new int[] {window(), extent(), extent(), 0, 0};
            case 8: return new int[] {window(), corner(), corner(), 0, 0};
            case 9: case 31: return new int[] {window(), 0, 0, 0, 0};
            case 10: return new int[] {window(), between(-1, 8), 0, 0, 0};
            case 11: case 21: case 32: return new int[] {between(-2, 13), 0, 0, 0, 0};
            case 12: return new int[] {pane(), pane(), random(30) == 0 ? between(-1, 5) : random(5), 0, 0};
            case 14: return new int[] {pane(), corner(), corner(), extent(), extent()};
            case 16: return new int[] {pane(), random(2), 0, 0, 0};
            case 6: case 18: return new int[] {pane(), between(-1, random(2) == 0 ? 2 : 12), 0, 0, 0};
            case 19: return new int[] {pane(), between(random(20) == 0 ? -1 : 0, random(20) == 0 ? 4 : 3),
                random(20) == 0 ? between(-402, 402) : between(-25, 25), 0, 0};
            case 22: case 23: case 24: return new int[] {between(-25, 125), between(-25, 65), 0, 0, 0};
            case 25: case 26: return new int[] {between(random(10) == 0 ? -1 : 0, random(10) == 0 ? 3 : 2), 0, 0, 0, 0};
            case 27: return new int[] {between(30, 127), 0, 0, 0, 0};
            default:
                a[0] = pane();
                return a;
        }
    }

    private static void typeText(Run layout, Reference reference, String text) {
        layout.clearText();
        reference.clearText();
        for (int k = 0; k < text.length(); k++) {
            layout.type(text.charAt(k));
            reference.type(text.charAt(k));
        }
    }

    private static int lettersUsed;

    private static String randomText() {
        lettersUsed = 0;
        StringBuilder text = new StringBuilder(randomTree(0));
        if (random(3) == 0 && text.length() > 0) {
            String signs = "HV(),:0123456789abcdefghijklm-* ";
            char sign = signs.charAt(random(signs.length()));
            int at = random(text.length());
            switch (random(4)) {
                case 0: text.setCharAt(at, sign); break;
                case 1: text.insert(at, sign); break;
                case 2: text.deleteCharAt(at); break;
                default: text.setLength(at); break;
            }
        }
        return text.toString();
    }

    private static String randomTree(int depth) {
        StringBuilder text = new StringBuilder();
        if (random(3) > 0 && depth < 4 || random(60) == 0 && depth < 30) {
            text.append(random(2) == 0 ? "H(" : "V(");
            int children = between(2, 3);
            for (int k = 0; k < children; k++) {
                int weight = random(12) == 0 ? between(999998, 1000002) : between(1, random(2) == 0 ? 9 : 2000);
                text.append(k == 0 ? "" : ",").append(weight).append(':').append(randomTree(depth + 1));
            }
            return text.append(')').toString();
        }
        boolean star = false;
        for (int k = between(1, 2); k > 0; k--) {
            lettersUsed += random(25) == 0 ? 0 : 1;
            text.append((char) ('a' + Math.max(0, lettersUsed - 1) % 12));
            int mark = random(5);
            if (mark == 0) {
                text.append('-');
            } else if (mark == 1 && (!star || random(9) == 0)) {
                text.append('*');
                star = true;
            }
        }
        return text.toString();
    }
}
