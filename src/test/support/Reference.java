import java.util.ArrayDeque;
import java.util.ArrayList;
import java.util.Arrays;
import java.util.Deque;
import java.util.List;

/**
 * A second layout, built in another way from the document alone: trees of objects, deep copies for
 * records and slots, an automaton for the text. The random runs compare the class with it.
 */
final class Reference {
    static final int NONE = -1;

    static final class Node {
        boolean group;
        int direction;
        long weight = 1000;
        List<Node> children = new ArrayList<>();
        List<Integer> tabs = new ArrayList<>();
        int active = NONE;
        int x;
        int y;
        int w;
        int h;

        Node copy() {
            Node c = new Node();
            c.group = group;
            c.direction = direction;
            c.weight = weight;
            c.active = active;
            c.tabs.addAll(tabs);
            for (Node child : children) {
                c.children.add(child.copy());
            }
            return c;
        }
    }

    static final class Win {
        int number;
        int x;
        int y;
        int w;
        int h;
        Node root;

        Win copy() {
            Win c = new Win();
            c.number = number;
            c.x = x;
            c.y = y;
            c.w = w;
            c.h = h;
            c.root = root == null ? null : root.copy();
            return c;
        }
    }

    /** The windows from back to front, the main window first; and the panes that are hidden. */
    static final class World {
        List<Win> windows = new ArrayList<>();
        boolean[] hidden = new boolean[12];

        World copy() {
            World c = new World();
            for (Win win : windows) {
                c.windows.add(win.copy());
            }
            c.hidden = hidden.clone();
            return c;
        }
    }

    static final class Snapshot {
        int[][] panes = new int[12][];
        World world = new World();
        List<Integer> focus = new ArrayList<>();
        World[] slots = new World[3];

        Snapshot copy() {
            Snapshot c = new Snapshot();
            for (int p = 0; p < 12; p++) {
                c.panes[p] = panes[p] == null ? null : panes[p].clone();
            }
            c.world = world.copy();
            c.focus.addAll(focus);
            for (int k = 0; k < 3; k++) {
                c.slots[k] = slots[k] == null ? null : slots[k].copy();
            }
            return c;
        }
    }

    private Snapshot s = new Snapshot();
    private final Deque<Snapshot> records = new ArrayDeque<>();
    private String text = "";

    Reference() {
        Win main = new Win();
        main.w = 120;
        main.h = 60;
        s.world.windows.add(main);
    }

    // ---- helpers

    private void mustExist(int pane) {
        if (pane < 0 || pane > 11 || s.panes[pane] == null) {
            throw new IndexOutOfBoundsException();
        }
    }

    private static void mustBe(boolean fine) {
        if (!fine) {
            throw new IllegalArgumentException();
        }
    }

    private static void mustStand(boolean fine) {
        if (!fine) {
            throw new IllegalStateException();
        }
    }

    private Win mustWindow(int number) {
        for (Win win : s.world.windows) {
            if (win.number == number) {
                return win;
            }
        }
        throw new IndexOutOfBoundsException();
    }

    private static boolean in(int v, int a, int b) {
        return a <= v && v <= b;
    }

    private void record() {
        records.addLast(s.copy());
        if (records.size() > 5) {
            records.removeFirst();
        }
    }

    private static List<Integer> panesOf(Node node) {
        List<Integer> all = new ArrayList<>();
        if (node != null) {
            all.addAll(node.tabs);
            for (Node child : node.children) {
                all.addAll(panesOf(child));
            }
        }
        return all;
    }

    private static List<Node> groupsOf(Node node) {
        List<Node> all = new ArrayList<>();
        if (node != null && node.group) {
            all.add(node);
        } else if (node != null) {
            for (Node child : node.children) {
                all.addAll(groupsOf(child));
            }
        }
        return all;
    }

    private static Win winOf(World world, int pane) {
        for (Win win : world.windows) {
            if (panesOf(win.root).contains(pane)) {
                return win;
            }
        }
        return null;
    }

    private static Node groupOf(World world, int pane) {
        for (Win win : world.windows) {
            for (Node g : groupsOf(win.root)) {
                if (g.tabs.contains(pane)) {
                    return g;
                }
            }
        }
        return null;
    }

    private static Node parentIn(Node root, Node node) {
        if (root == null || root.group) {
            return null;
        }
        for (Node child : root.children) {
            if (child == node) {
                return root;
            }
            Node found = parentIn(child, node);
            if (found != null) {
                return found;
            }
        }
        return null;
    }

    private static Node parentOf(World world, Node node) {
        for (Win win : world.windows) {
            Node p = parentIn(win.root, node);
            if (p != null) {
                return p;
            }
        }
        return null;
    }

    private boolean shownNode(Node node) {
        for (int p : panesOf(node)) {
            if (!s.world.hidden[p]) {
                return true;
            }
        }
        return false;
    }

    private List<Node> shownChildren(Node split) {
        List<Node> all = new ArrayList<>();
        for (Node child : split.children) {
            if (shownNode(child)) {
                all.add(child);
            }
        }
        return all;
    }

    private int least(Node node, int direction) {
        if (node.group) {
            int best = 0;
            for (int p : node.tabs) {
                if (!s.world.hidden[p]) {
                    best = Math.max(best, s.panes[p][direction]);
                }
            }
            return best + direction;
        }
        int sum = -1;
        int greatest = 0;
        for (Node child : shownChildren(node)) {
            sum += least(child, direction) + 1;
            greatest = Math.max(greatest, least(child, direction));
        }
        return node.direction == direction ? sum : greatest;
    }

    private int[] divide(List<Node> parts, int direction, int n) {
        int[] min = new int[parts.size()];
        int total = 0;
        for (int k = 0; k < min.length; k++) {
            min[k] = least(parts.get(k), direction);
            total += min[k];
        }
        int[] size = new int[min.length];
        if (total >= n) {
            int left = n;
            for (int k = 0; k < min.length; k++) {
                size[k] = Math.min(min[k], left);
                left -= size[k];
            }
            return size;
        }
        boolean[] closed = new boolean[min.length];
        while (true) {
            long r = n;
            long w = 0;
            for (int k = 0; k < min.length; k++) {
                if (closed[k]) {
                    r -= min[k];
                } else {
                    w += parts.get(k).weight;
                }
            }
            List<Integer> small = new ArrayList<>();
            List<long[]> rests = new ArrayList<>();
            long left = r;
            for (int k = 0; k < min.length; k++) {
                if (!closed[k]) {
                    long share = r * parts.get(k).weight / w;
                    size[k] = (int) share;
                    left -= share;
                    rests.add(new long[] {-(r * parts.get(k).weight % w), k});
                    if (share < min[k]) {
                        small.add(k);
                    }
                }
            }
            if (small.isEmpty()) {
                rests.sort((a, b) -> Long.compare(a[0], b[0]));
                for (int k = 0; k < left; k++) {
                    size[(int) rests.get(k)[1]]++;
                }
                return size;
            }
            for (int k : small) {
                closed[k] = true;
                size[k] = min[k];
            }
        }
    }

    private void lay(Node node, int x, int y, int w, int h) {
        node.x = x;
        node.y = y;
        node.w = w;
        node.h = h;
        if (node.group) {
            return;
        }
        List<Node> parts = shownChildren(node);
        int full = node.direction == 0 ? w : h;
        int[] size = divide(parts, node.direction, Math.max(0, full - parts.size() + 1));
        int at = node.direction == 0 ? x : y;
        for (int k = 0; k < size.length; k++) {
            if (node.direction == 0) {
                lay(parts.get(k), at, y, size[k], h);
            } else {
                lay(parts.get(k), x, at, w, size[k]);
            }
            at += size[k] + 1;
        }
    }

    private void layAll() {
        for (Win win : s.world.windows) {
            if (shownNode(win.root)) {
                lay(win.root, win.x, win.y, win.w, win.h);
            }
        }
    }

    private static void nextActive(World world, Node g, int pane) {
        if (g.active != pane) {
            return;
        }
        int i = g.tabs.indexOf(pane);
        g.active = NONE;
        for (int k = 0; k < i; k++) {
            if (!world.hidden[g.tabs.get(k)]) {
                g.active = g.tabs.get(k);
            }
        }
        for (int k = g.tabs.size() - 1; k > i; k--) {
            if (!world.hidden[g.tabs.get(k)]) {
                g.active = g.tabs.get(k);
            }
        }
    }

    private static void away(World world, int pane) {
        Win win = winOf(world, pane);
        if (win == null) {
            return;
        }
        Node g = groupOf(world, pane);
        nextActive(world, g, pane);
        g.tabs.remove((Integer) pane);
        world.hidden[pane] = false;
        if (!g.tabs.isEmpty()) {
            return;
        }
        Node split = parentOf(world, g);
        if (split == null) {
            win.root = null;
            if (win.number != 0) {
                world.windows.remove(win);
            }
            return;
        }
        split.children.remove(g);
        if (split.children.size() == 1) {
            Node only = split.children.get(0);
            only.weight = split.weight;
            put(world, win, split, only);
        }
    }

    private static void put(World world, Win win, Node old, Node fresh) {
        Node above = parentOf(world, old);
        if (above == null) {
            win.root = fresh;
        } else {
            above.children.set(above.children.indexOf(old), fresh);
        }
    }

    private void first(int pane) {
        s.focus.remove((Integer) pane);
        s.focus.add(0, pane);
    }

    private static Node single(int pane) {
        Node g = new Node();
        g.group = true;
        g.tabs.add(pane);
        g.active = pane;
        return g;
    }

    private int placed() {
        int n = 0;
        for (Win win : s.world.windows) {
            n += panesOf(win.root).size();
        }
        return n;
    }

    private void newFocus() {
        List<Integer> kept = new ArrayList<>();
        for (int p : s.focus) {
            if (winOf(s.world, p) != null) {
                kept.add(p);
            }
        }
        for (int p = 0; p < 12; p++) {
            if (winOf(s.world, p) != null && !kept.contains(p)) {
                kept.add(p);
            }
        }
        s.focus = kept;
    }

    // ---- the face

    int create(int width, int height) {
        mustBe(in(width, 1, 40) && in(height, 1, 40));
        for (int p = 0; p < 12; p++) {
            if (s.panes[p] == null) {
                record();
                s.panes[p] = new int[] {width, height};
                return p;
            }
        }
        throw new IllegalStateException();
    }

    int remove(int pane) {
        mustExist(pane);
        record();
        away(s.world, pane);
        s.focus.remove((Integer) pane);
        s.panes[pane] = null;
        return Integer.bitCount(panes());
    }

    int setMinimum(int pane, int width, int height) {
        mustExist(pane);
        mustBe(in(width, 1, 40) && in(height, 1, 40));
        record();
        int old = s.panes[pane][0] * 100 + s.panes[pane][1];
        s.panes[pane] = new int[] {width, height};
        return old;
    }

    int panes() {
        int mask = 0;
        for (int p = 0; p < 12; p++) {
            mask += s.panes[p] == null ? 0 : 1 << p;
        }
        return mask;
    }

    int pane(int pane, int what) {
        mustExist(pane);
        mustBe(in(what, 0, 8));
        Win win = winOf(s.world, pane);
        if (what < 2) {
            return s.panes[pane][what];
        }
        if (win == null) {
            return what == 3 || what == 4 ? 0 : NONE;
        }
        Node g = groupOf(s.world, pane);
        Node split = parentOf(s.world, g);
        switch (what) {
            case 2: return win.number;
            case 3: return s.world.hidden[pane] ? 1 : 0;
            case 4: return g.active == pane ? 1 : 0;
            case 5: return g.tabs.indexOf(pane);
            case 6: return g.tabs.size();
            case 7: return split == null ? NONE : (int) g.weight;
            default: return split == null ? NONE : split.direction;
        }
    }

    int rectangle(int pane, int what) {
        mustExist(pane);
        mustBe(in(what, 0, 3));
        Node g = groupOf(s.world, pane);
        if (g == null || !shownNode(g)) {
            return NONE;
        }
        layAll();
        return new int[] {g.x, g.y, g.w, g.h}[what];
    }

    int tab(int pane, int k) {
        mustExist(pane);
        Node g = groupOf(s.world, pane);
        return g == null || k < 0 || k >= g.tabs.size() ? NONE : g.tabs.get(k);
    }

    int resize(int window, int width, int height) {
        Win win = mustWindow(window);
        mustBe(in(width, 10, 400) && in(height, 10, 400));
        record();
        win.w = width;
        win.h = height;
        return panesOf(win.root).size();
    }

    int move(int window, int x, int y) {
        Win win = mustWindow(window);
        mustBe(in(x, -400, 400) && in(y, -400, 400));
        mustStand(window != 0);
        record();
        int old = win.x;
        win.x = x;
        win.y = y;
        return old;
    }

    int raise(int window) {
        Win win = mustWindow(window);
        mustStand(window != 0);
        record();
        int old = s.world.windows.indexOf(win) - 1;
        s.world.windows.remove(win);
        s.world.windows.add(win);
        return old;
    }

    int window(int window, int what) {
        Win win = mustWindow(window);
        mustBe(in(what, 0, 7));
        switch (what) {
            case 0: return win.x;
            case 1: return win.y;
            case 2: return win.w;
            case 3: return win.h;
            case 4: return panesOf(win.root).size();
            case 7: return s.world.windows.indexOf(win) - 1;
            default: return shownNode(win.root) ? least(win.root, what - 5) : 0;
        }
    }

    int floating(int k) {
        return k < 0 || k >= s.world.windows.size() - 1 ? NONE : s.world.windows.get(k + 1).number;
    }

    int dock(int pane, int target, int side) {
        mustExist(pane);
        mustExist(target);
        mustBe(pane != target && in(side, 0, 4));
        mustStand(winOf(s.world, target) != null);
        record();
        away(s.world, pane);
        Win win = winOf(s.world, target);
        Node g = groupOf(s.world, target);
        first(pane);
        if (side == 4) {
            g.tabs.add(pane);
            g.active = pane;
            return win.number;
        }
        Node fresh = single(pane);
        int direction = side / 2;
        int behind = side % 2;
        Node split = parentOf(s.world, g);
        if (split != null && split.direction == direction) {
            long old = g.weight;
            fresh.weight = Math.max(1, old / 2);
            g.weight = Math.max(1, old - fresh.weight);
            split.children.add(split.children.indexOf(g) + behind, fresh);
            return win.number;
        }
        Node between = new Node();
        between.direction = direction;
        between.weight = g.weight;
        put(s.world, win, g, between);
        g.weight = 1000;
        between.children.add(g);
        between.children.add(behind, fresh);
        return win.number;
    }

    int start(int pane) {
        mustExist(pane);
        Win main = s.world.windows.get(0);
        List<Integer> there = panesOf(main.root);
        there.remove((Integer) pane);
        mustStand(there.isEmpty());
        record();
        away(s.world, pane);
        main.root = single(pane);
        first(pane);
        return 0;
    }

    int floatAt(int pane, int x, int y, int width, int height) {
        mustExist(pane);
        mustBe(in(x, -400, 400) && in(y, -400, 400) && in(width, 10, 400) && in(height, 10, 400));
        mustStand(s.world.windows.size() < 5);
        record();
        away(s.world, pane);
        Win win = new Win();
        win.x = x;
        win.y = y;
        win.w = width;
        win.h = height;
        boolean[] used = new boolean[6];
        for (Win other : s.world.windows) {
            used[other.number] = true;
        }
        while (used[win.number]) {
            win.number++;
        }
        win.root = single(pane);
        s.world.windows.add(win);
        first(pane);
        return win.number;
    }

    int takeAway(int pane) {
        mustExist(pane);
        mustStand(winOf(s.world, pane) != null);
        record();
        away(s.world, pane);
        s.focus.remove((Integer) pane);
        return placed();
    }

    boolean show(int pane, boolean shown) {
        mustExist(pane);
        mustStand(winOf(s.world, pane) != null);
        record();
        boolean before = !s.world.hidden[pane];
        Node g = groupOf(s.world, pane);
        s.world.hidden[pane] = !shown;
        if (!shown) {
            nextActive(s.world, g, pane);
        } else if (g.active == NONE) {
            g.active = pane;
        }
        return before;
    }

    int activate(int pane) {
        mustExist(pane);
        mustStand(winOf(s.world, pane) != null && !s.world.hidden[pane]);
        record();
        Node g = groupOf(s.world, pane);
        int old = g.active;
        g.active = pane;
        first(pane);
        Win win = winOf(s.world, pane);
        if (win.number > 0) {
            s.world.windows.remove(win);
            s.world.windows.add(win);
        }
        return old;
    }

    int moveTab(int pane, int k) {
        mustExist(pane);
        Node g = groupOf(s.world, pane);
        mustStand(g != null);
        mustBe(k >= 0 && k < g.tabs.size());
        record();
        g = groupOf(s.world, pane);
        int old = g.tabs.indexOf(pane);
        g.tabs.remove(old);
        g.tabs.add(k, pane);
        return old;
    }

    int drag(int pane, int side, int by) {
        mustExist(pane);
        mustBe(in(side, 0, 3) && in(by, -400, 400));
        Node node = groupOf(s.world, pane);
        mustStand(node != null && shownNode(node));
        int direction = side / 2;
        while (true) {
            Node split = parentOf(s.world, node);
            mustStand(split != null);
            if (split.direction == direction) {
                List<Node> parts = shownChildren(split);
                int i = parts.indexOf(node);
                int j = side % 2 == 0 ? i - 1 : i + 1;
                if (j >= 0 && j < parts.size()) {
                    record();
                    return dragIn(split, parts, Math.min(i, j), by);
                }
            }
            node = split;
        }
    }

    private int dragIn(Node split, List<Node> parts, int i, int by) {
        layAll();
        int d = split.direction;
        int[] size = new int[parts.size()];
        long before = 0;
        for (int k = 0; k < size.length; k++) {
            size[k] = d == 0 ? parts.get(k).w : parts.get(k).h;
            before += parts.get(k).weight;
        }
        int down = size[i] - least(parts.get(i), d);
        int up = size[i + 1] - least(parts.get(i + 1), d);
        int moved = 0;
        if (down >= 0 && up >= 0) {
            moved = by > up ? up : by < -down ? -down : by;
        }
        size[i] += moved;
        size[i + 1] -= moved;
        long after = 0;
        for (int k = 0; k < size.length; k++) {
            parts.get(k).weight = Math.max(1, 100L * size[k]);
            after += parts.get(k).weight;
        }
        for (Node child : split.children) {
            if (!parts.contains(child)) {
                child.weight = Math.min(1000000, Math.max(1, child.weight * after / before));
            }
        }
        return moved;
    }

    int even(int pane) {
        mustExist(pane);
        Node g = groupOf(s.world, pane);
        Node split = g == null ? null : parentOf(s.world, g);
        mustStand(split != null);
        record();
        for (Node child : split.children) {
            child.weight = 1000;
        }
        return split.children.size();
    }

    int focus(int k) {
        return k < 0 || k >= s.focus.size() ? NONE : s.focus.get(k);
    }

    private Win frontAt(int x, int y) {
        for (int k = s.world.windows.size() - 1; k >= 0; k--) {
            Win win = s.world.windows.get(k);
            if (x >= win.x && x < win.x + win.w && y >= win.y && y < win.y + win.h) {
                return win;
            }
        }
        return null;
    }

    private Node groupAt(int x, int y) {
        Win win = frontAt(x, y);
        if (win == null) {
            return null;
        }
        layAll();
        for (Node g : groupsOf(win.root)) {
            if (shownNode(g) && x >= g.x && x < g.x + g.w && y >= g.y && y < g.y + g.h) {
                return g;
            }
        }
        return null;
    }

    int kindAt(int x, int y) {
        Win win = frontAt(x, y);
        if (win == null || !shownNode(win.root)) {
            return 0;
        }
        Node g = groupAt(x, y);
        return g == null ? 3 : y == g.y ? 2 : 1;
    }

    int paneAt(int x, int y) {
        Node g = groupAt(x, y);
        if (g == null) {
            return NONE;
        }
        if (y > g.y) {
            return g.active;
        }
        List<Integer> shown = new ArrayList<>(g.tabs);
        shown.removeIf(p -> s.world.hidden[p]);
        int each = g.w / shown.size();
        for (int k = 0; k < shown.size() - 1; k++) {
            if (x < g.x + (k + 1) * each) {
                return shown.get(k);
            }
        }
        return shown.get(shown.size() - 1);
    }

    int dropAt(int x, int y) {
        Node g = groupAt(x, y);
        if (g == null) {
            return NONE;
        }
        if (y == g.y) {
            return 10 * g.active + 4;
        }
        int[] far = {x - g.x, g.x + g.w - 1 - x, y - g.y, g.y + g.h - 1 - y};
        int best = 0;
        for (int k = 1; k < 4; k++) {
            if (far[k] < far[best]) {
                best = k;
            }
        }
        return 10 * g.active + (4 * far[best] < (best < 2 ? g.w : g.h) ? best : 4);
    }

    private static void mustSlot(int slot) {
        if (slot < 0 || slot > 2) {
            throw new IndexOutOfBoundsException();
        }
    }

    int store(int slot) {
        mustSlot(slot);
        record();
        s.slots[slot] = s.world.copy();
        return placed();
    }

    int restore(int slot) {
        mustSlot(slot);
        mustStand(s.slots[slot] != null);
        record();
        Win main = s.world.windows.get(0);
        s.world = s.slots[slot].copy();
        s.world.windows.get(0).w = main.w;
        s.world.windows.get(0).h = main.h;
        for (int p = 0; p < 12; p++) {
            if (s.panes[p] == null) {
                away(s.world, p);
            }
        }
        newFocus();
        return placed();
    }

    int type(int c) {
        mustBe(in(c, 32, 126));
        mustStand(text.length() < 120);
        text += (char) c;
        return text.length();
    }

    int clearText() {
        int old = text.length();
        text = "";
        return old;
    }

    /** What may come next: t a tree's begin, ( behind H or V, d a first digit, : digits or a colon, g tabs, e the end of a tree. */
    int fault() {
        Win main = s.world.windows.get(0);
        List<Integer> allowed = new ArrayList<>();
        for (int p = 0; p < 12; p++) {
            Win win = winOf(s.world, p);
            if (s.panes[p] != null && (win == null || win == main)) {
                allowed.add(p);
            }
        }
        Deque<Integer> open = new ArrayDeque<>();
        char mode = 't';
        String weight = "";
        boolean marked = false;
        boolean star = false;
        for (int i = 0; i < text.length(); i++) {
            char c = text.charAt(i);
            boolean letter = c >= 'a' && c <= 'l' && allowed.contains(c - 'a');
            if (mode == 't' && (c == 'H' || c == 'V')) {
                mode = '(';
            } else if ((mode == 't' || mode == 'g') && letter) {
                star = mode == 'g' && star;
                marked = false;
                allowed.remove((Integer) (c - 'a'));
                mode = 'g';
            } else if (mode == 'g' && !marked && (c == '-' || c == '*' && !star)) {
                marked = true;
                star |= c == '*';
            } else if (mode == '(' && c == '(') {
                open.push(0);
                mode = 'd';
            } else if (mode == 'd' && c >= '1' && c <= '9') {
                weight = "" + c;
                mode = ':';
            } else if (mode == ':' && c >= '0' && c <= '9' && Long.parseLong(weight + c) <= 1000000) {
                weight += c;
            } else if (mode == ':' && c == ':') {
                open.push(open.pop() + 1);
                mode = 't';
            } else if ((mode == 'g' || mode == 'e') && c == ',' && !open.isEmpty()) {
                mode = 'd';
            } else if ((mode == 'g' || mode == 'e') && c == ')' && !open.isEmpty() && open.peek() > 1) {
                open.pop();
                mode = 'e';
            } else {
                return i;
            }
        }
        return (mode == 'g' || mode == 'e') && open.isEmpty() ? NONE : text.length();
    }

    private int position;

    private Node build() {
        Node node = new Node();
        char c = text.charAt(position);
        if (c == 'H' || c == 'V') {
            node.direction = c == 'H' ? 0 : 1;
            position++;
            while (text.charAt(position) != ')') {
                int colon = text.indexOf(':', position);
                long weight = Long.parseLong(text.substring(position + 1, colon));
                position = colon + 1;
                Node child = build();
                child.weight = weight;
                node.children.add(child);
            }
            position++;
            return node;
        }
        node.group = true;
        while (position < text.length() && "),".indexOf(text.charAt(position)) < 0) {
            c = text.charAt(position++);
            if (c == '-') {
                s.world.hidden[node.tabs.get(node.tabs.size() - 1)] = true;
            } else if (c == '*') {
                node.active = node.tabs.get(node.tabs.size() - 1);
            } else {
                node.tabs.add(c - 'a');
                s.world.hidden[c - 'a'] = false;
            }
        }
        for (int p : node.tabs) {
            if (node.active == NONE && !s.world.hidden[p]) {
                node.active = p;
            }
        }
        return node;
    }

    int read() {
        mustBe(fault() == NONE);
        record();
        Win main = s.world.windows.get(0);
        for (int p : panesOf(main.root)) {
            s.world.hidden[p] = false;
        }
        position = 0;
        main.root = build();
        newFocus();
        return panesOf(main.root).size();
    }

    private String written(Node node) {
        String out = "";
        for (int p : node.tabs) {
            out += (char) ('a' + p) + (s.world.hidden[p] ? "-" : node.active == p ? "*" : "");
        }
        for (Node child : node.children) {
            out += (out.isEmpty() ? "" : ",") + child.weight + ":" + written(child);
        }
        return node.group ? out : (node.direction == 0 ? "H(" : "V(") + out + ")";
    }

    int write(int window) {
        Win win = mustWindow(window);
        String out = win.root == null ? "" : written(win.root);
        mustStand(out.length() <= 120);
        text = out;
        return text.length();
    }

    int character(int index) {
        return index < 0 || index >= text.length() ? NONE : text.charAt(index);
    }

    int undo() {
        mustStand(!records.isEmpty());
        s = records.removeLast();
        return records.size();
    }

    long checksum() {
        List<Integer> all = new ArrayList<>(Arrays.asList(panes()));
        for (int p = 0; p < 12; p++) {
            for (int what = 0; what <= 12 && s.panes[p] != null; what++) {
                all.add(what <= 8 ? pane(p, what) : rectangle(p, what - 9));
            }
        }
        List<Integer> numbers = new ArrayList<>();
        for (Win win : s.world.windows) {
            numbers.add(win.number);
        }
        numbers.sort(Integer::compare);
        for (int number : numbers) {
            for (int what = 0; what <= 7; what++) {
                all.add(window(number, what));
            }
        }
        all.addAll(s.focus);
        for (World slot : s.slots) {
            all.add(slot == null ? 0 : 1);
        }
        all.add(text.length());
        all.add(records.size());
        long h = 18323;
        for (int v : all) {
            h = 31 * h + v;
        }
        return h;
    }
}
