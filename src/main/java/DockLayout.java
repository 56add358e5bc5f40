import java.util.Arrays;

/** A layout of panes that can be docked; README.md tells how to use it. */
public final class DockLayout {
    public static final int NONE = -1;

    private static final int PANES = 12;
    private static final int WINDOWS = 5;
    /** Twelve groups with a pane each, and the eleven splits that can lie above them. */
    private static final int NODES = 23;
    private static final int SLOTS = 3;
    private static final int RECORDS = 5;
    private static final int TEXT_LIMIT = 120;
    /** No tree is as deep as this, and no beginning of a tree in a text either. */
    private static final int DEEPEST = 40;

    private static final int HORIZONTAL = 0;
    private static final int VERTICAL = 1;
    private static final int GROUP = 2;
    private static final int FREE = 3;

    private static final int LEFT = 0;
    private static final int RIGHT = 1;
    private static final int ABOVE = 2;
    private static final int BELOW = 3;
    private static final int AS_TAB = 4;

    private static final int MAIN = 0;
    private static final int MOST_MINIMUM = 40;
    private static final int LEAST_EXTENT = 10;
    private static final int FARTHEST = 400;
    private static final int EVEN_WEIGHT = 1000;
    private static final int MOST_WEIGHT = 1000000;
    private static final long CHECKSUM_START = 18323;

    private final State now = new State();
    private final State[] records = new State[RECORDS];
    private int oldestRecord;
    private int recordCount;
    /** Always belongs to the state as it is: every change of the layout computes it anew. */
    private final Plan plan = new Plan();
    private final Text text = new Text();
    private final TreeReader reader = new TreeReader();
    private final TreeWriter writer = new TreeWriter();

    public DockLayout() {
        for (int k = 0; k < records.length; k++) {
            records[k] = new State();
        }
    }

    // ---- panes

    public int create(int width, int height) throws IllegalArgumentException, IllegalStateException {
        requireMinimum(width, height);
        int pane = now.lowestFreePane();
        if (pane == NONE) {
            throw new IllegalStateException("there are 12 panes");
        }
        keepRecord();
        now.addPane(pane);
        now.setMinimums(pane, width, height);
        return pane;
    }

    public int remove(int pane) throws IndexOutOfBoundsException {
        requirePane(pane);
        keepRecord();
        now.trees.withdraw(pane);
        now.focusOrder.leave(pane);
        now.dropPane(pane);
        plan.compute(now);
        return Integer.bitCount(now.existing);
    }

    public int setMinimum(int pane, int width, int height)
            throws IndexOutOfBoundsException, IllegalArgumentException {
        requirePane(pane);
        requireMinimum(width, height);
        keepRecord();
        int previous = 100 * at(now.minimumWidth, pane) + at(now.minimumHeight, pane);
        now.setMinimums(pane, width, height);
        plan.compute(now);
        return previous;
    }

    public int panes() {
        return now.existing;
    }

    public int pane(int pane, int what) throws IndexOutOfBoundsException, IllegalArgumentException {
        requirePane(pane);
        requireRange(what, 0, 8);
        Placement trees = now.trees;
        int group = trees.groupOf(pane);
        switch (what) {
            case 0: return at(now.minimumWidth, pane);
            case 1: return at(now.minimumHeight, pane);
            case 2: return trees.windowOf(group);
            case 3: return trees.isHidden(pane) ? 1 : 0;
            case 4: return group != NONE && trees.activeOf(group) == pane ? 1 : 0;
            case 5: return trees.spotOf(pane);
            case 6: return group == NONE ? NONE : trees.tabCount(group);
            case 7: return trees.parentOf(group) == NONE ? NONE : trees.weightOf(group);
            default: return trees.parentOf(group) == NONE ? NONE : trees.kindOf(trees.parentOf(group));
        }
    }

    public int rectangle(int pane, int what) throws IndexOutOfBoundsException, IllegalArgumentException {
        requirePane(pane);
        requireRange(what, 0, 3);
        int group = now.trees.groupOf(pane);
        if (!plan.isShown(group)) {
            return NONE;
        }
        switch (what) {
            case 0: return plan.leftOf(group);
            case 1: return plan.topOf(group);
            case 2: return plan.columnsOf(group);
            default: return plan.rowsOf(group);
        }
    }

    public int tab(int pane, int k) throws IndexOutOfBoundsException {
        requirePane(pane);
        return now.trees.tabAt(now.trees.groupOf(pane), k);
    }

    // ---- windows

    public int resize(int window, int width, int height)
            throws IndexOutOfBoundsException, IllegalArgumentException {
        requireWindow(window);
        requireRange(width, LEAST_EXTENT, FARTHEST);
        requireRange(height, LEAST_EXTENT, FARTHEST);
        keepRecord();
        now.trees.setSize(window, width, height);
        plan.compute(now);
        return now.trees.panesIn(window);
    }

    public int move(int window, int x, int y)
            throws IndexOutOfBoundsException, IllegalArgumentException, IllegalStateException {
        requireWindow(window);
        requireRange(x, -FARTHEST, FARTHEST);
        requireRange(y, -FARTHEST, FARTHEST);
        requireFloating(window);
        keepRecord();
        int previous = at(now.trees.windowX, window);
        now.trees.setCorner(window, x, y);
        plan.compute(now);
        return previous;
    }

    public int raise(int window) throws IndexOutOfBoundsException, IllegalStateException {
        requireWindow(window);
        requireFloating(window);
        keepRecord();
        int previous = now.trees.floats.indexOf(window);
        now.trees.floats.putLast(window);
        return previous;
    }

    public int window(int window, int what) throws IndexOutOfBoundsException, IllegalArgumentException {
        requireWindow(window);
        requireRange(what, 0, 7);
        Placement trees = now.trees;
        int root = trees.rootOf(window);
        switch (what) {
            case 0: return at(trees.windowX, window);
            case 1: return at(trees.windowY, window);
            case 2: return at(trees.windowWidth, window);
            case 3: return at(trees.windowHeight, window);
            case 4: return trees.panesIn(window);
            case 5: return plan.isShown(root) ? plan.minimumOf(root, HORIZONTAL) : 0;
            case 6: return plan.isShown(root) ? plan.minimumOf(root, VERTICAL) : 0;
            default: return trees.floats.indexOf(window);
        }
    }

    public int floating(int k) {
        return now.trees.floats.item(k);
    }

    // ---- placing panes

    public int dock(int pane, int target, int side)
            throws IndexOutOfBoundsException, IllegalArgumentException, IllegalStateException {
        requirePane(pane);
        requirePane(target);
        if (pane == target) {
            throw new IllegalArgumentException("a pane can't be docked at itself");
        }
        requireRange(side, LEFT, AS_TAB);
        requirePlaced(target);
        keepRecord();
        Placement trees = now.trees;
        trees.withdraw(pane);
        int group = trees.groupOf(target);
        trees.joinGroup(pane, side == AS_TAB ? group : trees.makeGroupBeside(group, side));
        now.focusOrder.putFirst(pane);
        plan.compute(now);
        return trees.windowOf(trees.groupOf(pane));
    }

    public int start(int pane) throws IndexOutOfBoundsException, IllegalStateException {
        requirePane(pane);
        Placement trees = now.trees;
        int own = trees.windowOf(trees.groupOf(pane)) == MAIN ? 1 : 0;
        if (trees.panesIn(MAIN) > own) {
            throw new IllegalStateException("another pane is placed in the main window");
        }
        keepRecord();
        trees.withdraw(pane);
        trees.joinGroup(pane, trees.makeRootGroup(MAIN));
        now.focusOrder.putFirst(pane);
        plan.compute(now);
        return MAIN;
    }

    public int floatAt(int pane, int x, int y, int width, int height)
            throws IndexOutOfBoundsException, IllegalArgumentException, IllegalStateException {
        requirePane(pane);
        requireRange(x, -FARTHEST, FARTHEST);
        requireRange(y, -FARTHEST, FARTHEST);
        requireRange(width, LEAST_EXTENT, FARTHEST);
        requireRange(height, LEAST_EXTENT, FARTHEST);
        Placement trees = now.trees;
        if (trees.floats.size() >= WINDOWS - 1) {
            throw new IllegalStateException("there are 4 floating windows");
        }
        keepRecord();
        trees.withdraw(pane);
        int window = trees.lowestFreeWindow();
        trees.setCorner(window, x, y);
        trees.setSize(window, width, height);
        trees.joinGroup(pane, trees.makeRootGroup(window));
        trees.floats.putLast(window);
        now.focusOrder.putFirst(pane);
        plan.compute(now);
        return window;
    }

    public int takeAway(int pane) throws IndexOutOfBoundsException, IllegalStateException {
        requirePane(pane);
        requirePlaced(pane);
        keepRecord();
        now.trees.withdraw(pane);
        now.focusOrder.leave(pane);
        plan.compute(now);
        return now.focusOrder.size();
    }

    public boolean show(int pane, boolean shown) throws IndexOutOfBoundsException, IllegalStateException {
        requirePane(pane);
        requirePlaced(pane);
        keepRecord();
        boolean before = !now.trees.isHidden(pane);
        if (shown) {
            now.trees.reveal(pane);
        } else {
            now.trees.hide(pane);
        }
        plan.compute(now);
        return before;
    }

    public int activate(int pane) throws IndexOutOfBoundsException, IllegalStateException {
        requirePane(pane);
        requirePlaced(pane);
        Placement trees = now.trees;
        if (trees.isHidden(pane)) {
            throw new IllegalStateException("the pane is hidden");
        }
        keepRecord();
        int group = trees.groupOf(pane);
        int previous = trees.activeOf(group);
        trees.setActive(group, pane);
        now.focusOrder.putFirst(pane);
        int window = trees.windowOf(group);
        if (window != MAIN) {
            trees.floats.putLast(window);
        }
        return previous;
    }

    public int moveTab(int pane, int k)
            throws IndexOutOfBoundsException, IllegalStateException, IllegalArgumentException {
        requirePane(pane);
        requirePlaced(pane);
        requireRange(k, 0, now.trees.tabCount(now.trees.groupOf(pane)) - 1);
        keepRecord();
        int previous = now.trees.spotOf(pane);
        now.trees.moveToSpot(pane, k);
        return previous;
    }

    public int drag(int pane, int side, int by)
            throws IndexOutOfBoundsException, IllegalArgumentException, IllegalStateException {
        requirePane(pane);
        requireRange(side, LEFT, BELOW);
        requireRange(by, -FARTHEST, FARTHEST);
        int group = now.trees.groupOf(pane);
        int node = plan.isShown(group) ? nodeAtDivider(group, side) : NONE;
        if (node == NONE) {
            throw new IllegalStateException("the pane is in no group that is shown, or there is no such divider");
        }
        keepRecord();
        int neighbour = shownNeighbour(node, side);
        boolean nodeIsFirst = side == RIGHT || side == BELOW;
        int first = nodeIsFirst ? node : neighbour;
        int second = nodeIsFirst ? neighbour : node;
        int moved = plan.dividerStep(first, second, directionOf(side), by);
        weighBySizes(first, second, moved);
        plan.compute(now);
        return moved;
    }

    public int even(int pane) throws IndexOutOfBoundsException, IllegalStateException {
        requirePane(pane);
        Placement trees = now.trees;
        int split = trees.parentOf(trees.groupOf(pane));
        if (split == NONE) {
            throw new IllegalStateException("the pane is not placed, or its group is the root");
        }
        keepRecord();
        int children = trees.childCount(split);
        for (int k = 0; k < children; k++) {
            trees.setWeight(trees.childAt(split, k), EVEN_WEIGHT);
        }
        plan.compute(now);
        return children;
    }

    public int focus(int k) {
        return now.focusOrder.item(k);
    }

    // ---- hits

    public int kindAt(int x, int y) {
        int window = frontWindowAt(x, y);
        if (!plan.isShown(now.trees.rootOf(window))) {
            return 0;
        }
        int group = groupAt(window, x, y);
        if (group == NONE) {
            return 3;
        }
        return y == plan.topOf(group) ? 2 : 1;
    }

    public int paneAt(int x, int y) {
        int group = groupAt(frontWindowAt(x, y), x, y);
        if (group == NONE) {
            return NONE;
        }
        return y == plan.topOf(group) ? paneOfTab(group, x) : now.trees.activeOf(group);
    }

    public int dropAt(int x, int y) {
        int group = groupAt(frontWindowAt(x, y), x, y);
        if (group == NONE) {
            return NONE;
        }
        int side = y == plan.topOf(group) ? AS_TAB : plan.sideAt(group, x, y);
        return 10 * now.trees.activeOf(group) + side;
    }

    // ---- slots, texts

    public int store(int slot) throws IndexOutOfBoundsException {
        requireSlot(slot);
        keepRecord();
        now.saveSlot(slot);
        return now.focusOrder.size();
    }

    public int restore(int slot) throws IndexOutOfBoundsException, IllegalStateException {
        requireSlot(slot);
        if (!now.isSaved(slot)) {
            throw new IllegalStateException("nothing is saved in the slot");
        }
        keepRecord();
        now.loadSlot(slot);
        plan.compute(now);
        return now.focusOrder.size();
    }

    public int type(int c) throws IllegalArgumentException, IllegalStateException {
        requireRange(c, 32, 126);
        if (text.length() >= TEXT_LIMIT) {
            throw new IllegalStateException("the text has 120 characters");
        }
        text.append(c);
        return text.length();
    }

    public int clearText() {
        int previous = text.length();
        text.empty();
        return previous;
    }

    public int fault() {
        return reader.findFault(now, text);
    }

    public int read() throws IllegalArgumentException {
        if (reader.findFault(now, text) != NONE) {
            throw new IllegalArgumentException("the text has a fault");
        }
        keepRecord();
        now.trees.copyFrom(reader.trees);
        now.settleFocus();
        plan.compute(now);
        return now.trees.panesIn(MAIN);
    }

    public int write(int window) throws IndexOutOfBoundsException, IllegalStateException {
        requireWindow(window);
        writer.compose(now.trees, window);
        if (writer.written.length() > TEXT_LIMIT) {
            throw new IllegalStateException("the text would have more than 120 characters");
        }
        text.copyFrom(writer.written);
        return text.length();
    }

    public int character(int index) {
        return text.code(index);
    }

    public int undo() throws IllegalStateException {
        if (recordCount == 0) {
            throw new IllegalStateException("there is no record");
        }
        recordCount--;
        now.copyFrom(recordAt(recordCount));
        plan.compute(now);
        return recordCount;
    }

    public long checksum() {
        long sum = mix(CHECKSUM_START, now.existing);
        for (int pane = 0; pane < PANES; pane++) {
            sum = now.exists(pane) ? mixPane(sum, pane) : sum;
        }
        for (int window = 0; window < WINDOWS; window++) {
            sum = now.trees.windowExists(window) ? mixWindow(sum, window) : sum;
        }
        for (int k = 0; k < now.focusOrder.size(); k++) {
            sum = mix(sum, now.focusOrder.item(k));
        }
        for (int slot = 0; slot < SLOTS; slot++) {
            sum = mix(sum, now.isSaved(slot) ? 1 : 0);
        }
        return mix(mix(sum, text.length()), recordCount);
    }

    private long mixPane(long start, int pane) {
        long sum = start;
        for (int what = 0; what <= 8; what++) {
            sum = mix(sum, pane(pane, what));
        }
        for (int what = 0; what <= 3; what++) {
            sum = mix(sum, rectangle(pane, what));
        }
        return sum;
    }

    private long mixWindow(long start, int window) {
        long sum = start;
        for (int what = 0; what <= 7; what++) {
            sum = mix(sum, window(window, what));
        }
        return sum;
    }

    private static long mix(long sum, int number) {
        return 31 * sum + number;
    }

    // ---- what a call may ask for

    private void requirePane(int pane) {
        if (!now.exists(pane)) {
            throw new IndexOutOfBoundsException("there is no such pane");
        }
    }

    private void requireWindow(int window) {
        if (!now.trees.windowExists(window)) {
            throw new IndexOutOfBoundsException("there is no such window");
        }
    }

    private static void requireSlot(int slot) {
        if (slot < 0 || slot >= SLOTS) {
            throw new IndexOutOfBoundsException("there is no such slot");
        }
    }

    private static void requireRange(int value, int least, int most) {
        if (value < least || value > most) {
            throw new IllegalArgumentException("an argument is out of range");
        }
    }

    private static void requireMinimum(int width, int height) {
        requireRange(width, 1, MOST_MINIMUM);
        requireRange(height, 1, MOST_MINIMUM);
    }

    private static void requireFloating(int window) {
        if (window == MAIN) {
            throw new IllegalStateException("it is the main window");
        }
    }

    private void requirePlaced(int pane) {
        if (now.trees.groupOf(pane) == NONE) {
            throw new IllegalStateException("the pane is not placed");
        }
    }

    // ---- records

    /** Comes after the last exception of a call and before its first change. */
    private void keepRecord() {
        if (recordCount == RECORDS) {
            oldestRecord = Math.floorMod(oldestRecord + 1, RECORDS);
            recordCount--;
        }
        recordAt(recordCount).copyFrom(now);
        recordCount++;
    }

    /** The row is used as a ring, so that dropping the oldest record moves nothing. */
    private State recordAt(int age) {
        int index = Math.floorMod(oldestRecord + age, RECORDS);
        return index >= 0 && index < records.length ? records[index] : now;
    }

    // ---- dividers

    private static int directionOf(int side) {
        return side == LEFT || side == RIGHT ? HORIZONTAL : VERTICAL;
    }

    private int nodeAtDivider(int group, int side) {
        int node = group;
        for (int level = 0; level < NODES && node != NONE; level++) {
            if (shownNeighbour(node, side) != NONE) {
                return node;
            }
            node = now.trees.parentOf(node);
        }
        return NONE;
    }

    /** The nearest node that is shown on this side, among the children of the same split. */
    private int shownNeighbour(int node, int side) {
        Placement trees = now.trees;
        int split = trees.parentOf(node);
        if (split == NONE || trees.kindOf(split) != directionOf(side)) {
            return NONE;
        }
        int step = side == LEFT || side == ABOVE ? -1 : 1;
        int place = trees.placeOf(node);
        for (int k = 1; k < NODES; k++) {
            int other = trees.childAt(split, place + k * step);
            if (plan.isShown(other)) {
                return other;
            }
        }
        return NONE;
    }

    /** Gives the children of a split the weights that belong to their sizes behind a drag. */
    private void weighBySizes(int first, int second, int moved) {
        Placement trees = now.trees;
        int split = trees.parentOf(first);
        int direction = trees.kindOf(split);
        int children = trees.childCount(split);
        long oldSum = 0;
        long newSum = 0;
        for (int k = 0; k < children; k++) {
            int child = trees.childAt(split, k);
            if (plan.isShown(child)) {
                int change = child == first ? moved : child == second ? -moved : 0;
                int weight = Math.max(1, 100 * (plan.extentOf(child, direction) + change));
                oldSum += trees.weightOf(child);
                newSum += weight;
                trees.setWeight(child, weight);
            }
        }
        for (int k = 0; k < children && oldSum > 0; k++) {
            int child = trees.childAt(split, k);
            if (!plan.isShown(child)) {
                long scaled = trees.weightOf(child) * newSum / oldSum;
                trees.setWeight(child, (int) Math.max(1L, Math.min(scaled, MOST_WEIGHT)));
            }
        }
    }

    // ---- points

    private int frontWindowAt(int x, int y) {
        Order floats = now.trees.floats;
        for (int k = floats.size() - 1; k >= 0; k--) {
            if (now.trees.windowContains(floats.item(k), x, y)) {
                return floats.item(k);
            }
        }
        return now.trees.windowContains(MAIN, x, y) ? MAIN : NONE;
    }

    private int groupAt(int window, int x, int y) {
        Placement trees = now.trees;
        for (int node = 0; node < NODES && window != NONE; node++) {
            boolean hit = trees.kindOf(node) == GROUP && plan.contains(node, x, y);
            if (hit && trees.windowOf(node) == window) {
                return node;
            }
        }
        return NONE;
    }

    private int paneOfTab(int group, int x) {
        int shown = now.trees.shownCount(group);
        if (shown < 1) {
            return NONE;
        }
        int tabWidth = plan.columnsOf(group) / shown;
        int last = shown - 1;
        int k = tabWidth < 1 ? last : Math.min((x - plan.leftOf(group)) / tabWidth, last);
        return now.trees.shownTabAt(group, k);
    }

    // ---- rows

    private static int at(int[] row, int index) {
        return index >= 0 && index < row.length ? row[index] : NONE;
    }

    private static void put(int[] row, int index, int value) {
        if (index >= 0 && index < row.length) {
            row[index] = value;
        }
    }

    private static void copyRow(int[] from, int[] to) {
        System.arraycopy(from, 0, to, 0, Math.min(from.length, to.length));
    }

    /** An order of a few different numbers. */
    private static final class Order {
        private final int[] items = new int[PANES];
        private int count;

        int size() {
            return count;
        }

        int item(int k) {
            return k < count ? at(items, k) : NONE;
        }

        int indexOf(int number) {
            for (int k = 0; k < count; k++) {
                if (at(items, k) == number) {
                    return k;
                }
            }
            return NONE;
        }

        void leave(int number) {
            int found = indexOf(number);
            if (found == NONE) {
                return;
            }
            for (int k = found; k < count - 1; k++) {
                put(items, k, at(items, k + 1));
            }
            count--;
        }

        void putFirst(int number) {
            putLast(number);
            for (int k = count - 1; k > 0; k--) {
                put(items, k, at(items, k - 1));
            }
            put(items, 0, number);
        }

        void putLast(int number) {
            leave(number);
            if (count < items.length) {
                put(items, count, number);
                count++;
            }
        }

        void copyFrom(Order other) {
            copyRow(other.items, items);
            count = other.count;
        }
    }

    /** What a record keeps: the panes, the orders, the windows with their trees, and the slots. */
    private static final class State {
        private int existing;
        private final int[] minimumWidth = new int[PANES];
        private final int[] minimumHeight = new int[PANES];
        private final Order focusOrder = new Order();
        private final Placement trees = new Placement();
        private final Placement[] slots = new Placement[SLOTS];
        private int savedSlots;

        State() {
            for (int k = 0; k < slots.length; k++) {
                slots[k] = new Placement();
            }
        }

        boolean exists(int pane) {
            return pane >= 0 && pane < PANES && (existing >> pane & 1) == 1;
        }

        int lowestFreePane() {
            for (int pane = 0; pane < PANES; pane++) {
                if (!exists(pane)) {
                    return pane;
                }
            }
            return NONE;
        }

        void addPane(int pane) {
            existing |= 1 << pane;
        }

        void dropPane(int pane) {
            existing &= ~(1 << pane);
        }

        void setMinimums(int pane, int width, int height) {
            put(minimumWidth, pane, width);
            put(minimumHeight, pane, height);
        }

        boolean isSaved(int slot) {
            return (savedSlots >> slot & 1) == 1;
        }

        void saveSlot(int slot) {
            if (slot >= 0 && slot < slots.length) {
                slots[slot].copyFrom(trees);
                savedSlots |= 1 << slot;
            }
        }

        void loadSlot(int slot) {
            if (slot < 0 || slot >= slots.length) {
                return;
            }
            int mainWidth = at(trees.windowWidth, MAIN);
            int mainHeight = at(trees.windowHeight, MAIN);
            trees.copyFrom(slots[slot]);
            trees.setSize(MAIN, mainWidth, mainHeight);
            for (int pane = 0; pane < PANES; pane++) {
                if (!exists(pane)) {
                    trees.withdraw(pane);
                }
            }
            settleFocus();
        }

        /** Makes the order of focus fit trees that have been put in place of others. */
        void settleFocus() {
            for (int pane = 0; pane < PANES; pane++) {
                if (trees.groupOf(pane) == NONE) {
                    focusOrder.leave(pane);
                } else if (focusOrder.indexOf(pane) == NONE) {
                    focusOrder.putLast(pane);
                }
            }
        }

        void copyFrom(State other) {
            existing = other.existing;
            copyRow(other.minimumWidth, minimumWidth);
            copyRow(other.minimumHeight, minimumHeight);
            focusOrder.copyFrom(other.focusOrder);
            trees.copyFrom(other.trees);
            for (int k = 0; k < slots.length && k < other.slots.length; k++) {
                slots[k].copyFrom(other.slots[k]);
            }
            savedSlots = other.savedSlots;
        }
    }

    /**
     * What a slot keeps: the windows and their trees. A node knows its parent and its place among
     * the children there, a pane its group and its spot among the tabs: so no row is a chain.
     */
    private static final class Placement {
        private final int[] windowX = new int[WINDOWS];
        private final int[] windowY = new int[WINDOWS];
        private final int[] windowWidth = new int[WINDOWS];
        private final int[] windowHeight = new int[WINDOWS];
        private final int[] root = new int[WINDOWS];
        private final Order floats = new Order();
        private final int[] kind = new int[NODES];
        private final int[] parent = new int[NODES];
        private final int[] place = new int[NODES];
        private final int[] weight = new int[NODES];
        private final int[] active = new int[NODES];
        private final int[] group = new int[PANES];
        private final int[] spot = new int[PANES];
        private final int[] hidden = new int[PANES];

        Placement() {
            Arrays.fill(root, NONE);
            Arrays.fill(kind, FREE);
            Arrays.fill(parent, NONE);
            Arrays.fill(group, NONE);
            Arrays.fill(spot, NONE);
            Arrays.fill(windowWidth, 120);
            Arrays.fill(windowHeight, 60);
        }

        void copyFrom(Placement other) {
            copyRow(other.windowX, windowX);
            copyRow(other.windowY, windowY);
            copyRow(other.windowWidth, windowWidth);
            copyRow(other.windowHeight, windowHeight);
            copyRow(other.root, root);
            floats.copyFrom(other.floats);
            copyRow(other.kind, kind);
            copyRow(other.parent, parent);
            copyRow(other.place, place);
            copyRow(other.weight, weight);
            copyRow(other.active, active);
            copyRow(other.group, group);
            copyRow(other.spot, spot);
            copyRow(other.hidden, hidden);
        }

        int rootOf(int window) {
            return at(root, window);
        }

        int kindOf(int node) {
            return at(kind, node);
        }

        int parentOf(int node) {
            return at(parent, node);
        }

        int placeOf(int node) {
            return at(place, node);
        }

        int weightOf(int node) {
            return at(weight, node);
        }

        int activeOf(int node) {
            return at(active, node);
        }

        int groupOf(int pane) {
            return at(group, pane);
        }

        int spotOf(int pane) {
            return at(spot, pane);
        }

        boolean isHidden(int pane) {
            return at(hidden, pane) == 1;
        }

        void setWeight(int node, int value) {
            put(weight, node, value);
        }

        void setActive(int node, int pane) {
            put(active, node, pane);
        }

        // windows

        boolean windowExists(int window) {
            return window == MAIN || rootOf(window) != NONE;
        }

        int lowestFreeWindow() {
            for (int window = MAIN + 1; window < WINDOWS; window++) {
                if (rootOf(window) == NONE) {
                    return window;
                }
            }
            return NONE;
        }

        void setCorner(int window, int x, int y) {
            put(windowX, window, x);
            put(windowY, window, y);
        }

        void setSize(int window, int width, int height) {
            put(windowWidth, window, width);
            put(windowHeight, window, height);
        }

        boolean windowContains(int window, int x, int y) {
            int left = at(windowX, window);
            int top = at(windowY, window);
            return x >= left && x < left + at(windowWidth, window)
                && y >= top && y < top + at(windowHeight, window);
        }

        int windowOf(int node) {
            int top = node;
            for (int level = 0; level < NODES && at(parent, top) != NONE; level++) {
                top = at(parent, top);
            }
            for (int window = 0; window < WINDOWS && top != NONE; window++) {
                if (at(root, window) == top) {
                    return window;
                }
            }
            return NONE;
        }

        int panesIn(int window) {
            int count = 0;
            for (int pane = 0; pane < PANES; pane++) {
                count += groupOf(pane) != NONE && windowOf(groupOf(pane)) == window ? 1 : 0;
            }
            return count;
        }

        void emptyWindow(int window) {
            for (int pane = 0; pane < PANES; pane++) {
                if (groupOf(pane) != NONE && windowOf(groupOf(pane)) == window) {
                    withdraw(pane);
                }
            }
        }

        // nodes

        /** A new node; NONE if all are in use. A node that is free has no parent. */
        int makeNode(int newKind) {
            for (int node = 0; node < NODES; node++) {
                if (at(kind, node) == FREE) {
                    put(kind, node, newKind);
                    return node;
                }
            }
            return NONE;
        }

        void freeNode(int node) {
            put(kind, node, FREE);
        }

        int makeRootGroup(int window) {
            int node = makeNode(GROUP);
            setRoot(window, node);
            return node;
        }

        void setRoot(int window, int node) {
            put(root, window, node);
        }

        int childCount(int split) {
            int count = 0;
            for (int node = 0; node < NODES && split != NONE; node++) {
                count += at(parent, node) == split ? 1 : 0;
            }
            return count;
        }

        int childAt(int split, int k) {
            for (int node = 0; node < NODES && split != NONE; node++) {
                if (at(parent, node) == split && at(place, node) == k) {
                    return node;
                }
            }
            return NONE;
        }

        /** Makes a node a child of a split, with this place; those from there on go back by one. */
        void attach(int node, int split, int k, int newWeight) {
            if (node == NONE || split == NONE) {
                return;
            }
            shiftChildren(split, k, 1);
            put(parent, node, split);
            put(place, node, k);
            put(weight, node, newWeight);
        }

        void detach(int node) {
            int split = at(parent, node);
            put(parent, node, NONE);
            shiftChildren(split, at(place, node), -1);
        }

        private void shiftChildren(int split, int from, int by) {
            for (int node = 0; node < NODES && split != NONE; node++) {
                if (at(parent, node) == split && at(place, node) >= from) {
                    put(place, node, at(place, node) + by);
                }
            }
        }

        /** Puts a node without a parent where another is, with its weight. */
        private void replace(int old, int fresh) {
            int split = at(parent, old);
            if (split == NONE) {
                put(root, windowOf(old), fresh);
                return;
            }
            put(parent, old, NONE);
            put(parent, fresh, split);
            put(place, fresh, at(place, old));
            put(weight, fresh, at(weight, old));
        }

        int makeGroupBeside(int target, int side) {
            int direction = directionOf(side);
            int behind = side == RIGHT || side == BELOW ? 1 : 0;
            int fresh = makeNode(GROUP);
            int split = at(parent, target);
            if (split != NONE && at(kind, split) == direction) {
                int half = at(weight, target) / 2;
                put(weight, target, Math.max(1, at(weight, target) - half));
                attach(fresh, split, at(place, target) + behind, Math.max(1, half));
                return fresh;
            }
            int between = makeNode(direction);
            replace(target, between);
            attach(target, between, 0, EVEN_WEIGHT);
            attach(fresh, between, behind, EVEN_WEIGHT);
            return fresh;
        }

        private void removeGroup(int node) {
            int split = at(parent, node);
            if (split == NONE) {
                int window = windowOf(node);
                put(root, window, NONE);
                floats.leave(window);
            }
            detach(node);
            freeNode(node);
            if (childCount(split) == 1) {
                int last = childAt(split, 0);
                detach(last);
                replace(split, last);
                freeNode(split);
            }
        }

        // tabs

        int tabCount(int node) {
            int count = 0;
            for (int pane = 0; pane < PANES; pane++) {
                count += at(group, pane) == node ? 1 : 0;
            }
            return count;
        }

        int tabAt(int node, int k) {
            for (int pane = 0; pane < PANES && node != NONE; pane++) {
                if (at(group, pane) == node && at(spot, pane) == k) {
                    return pane;
                }
            }
            return NONE;
        }

        int shownCount(int node) {
            int count = 0;
            for (int pane = 0; pane < PANES; pane++) {
                count += at(group, pane) == node && !isHidden(pane) ? 1 : 0;
            }
            return count;
        }

        int shownTabAt(int node, int k) {
            int before = 0;
            for (int index = 0; index < PANES; index++) {
                int pane = tabAt(node, index);
                if (pane != NONE && !isHidden(pane)) {
                    if (before == k) {
                        return pane;
                    }
                    before++;
                }
            }
            return NONE;
        }

        /** The pane that becomes active instead of one with this spot. */
        int activeInstead(int node, int from) {
            for (int k = from + 1; k < PANES; k++) {
                int pane = tabAt(node, k);
                if (pane != NONE && !isHidden(pane)) {
                    return pane;
                }
            }
            for (int k = from - 1; k >= 0; k--) {
                int pane = tabAt(node, k);
                if (pane != NONE && !isHidden(pane)) {
                    return pane;
                }
            }
            return NONE;
        }

        /** Puts a pane that is not placed, and so not hidden, into a group, as its last tab and active. */
        void joinGroup(int pane, int node) {
            put(spot, pane, tabCount(node));
            put(group, pane, node);
            put(active, node, pane);
        }

        /** Takes a pane away, if it is placed. */
        void withdraw(int pane) {
            int node = groupOf(pane);
            if (node == NONE) {
                return;
            }
            hide(pane);
            moveToSpot(pane, tabCount(node) - 1);
            put(group, pane, NONE);
            put(spot, pane, NONE);
            put(hidden, pane, 0);
            if (tabCount(node) == 0) {
                removeGroup(node);
            }
        }

        void hide(int pane) {
            int node = groupOf(pane);
            put(hidden, pane, 1);
            if (at(active, node) == pane) {
                put(active, node, activeInstead(node, spotOf(pane)));
            }
        }

        void reveal(int pane) {
            int node = groupOf(pane);
            put(hidden, pane, 0);
            if (at(active, node) == NONE) {
                put(active, node, pane);
            }
        }

        void moveToSpot(int pane, int k) {
            int old = spotOf(pane);
            for (int other = 0; other < PANES; other++) {
                int there = spotOf(other);
                if (at(group, other) == at(group, pane)) {
                    int step = there > old && there <= k ? -1 : there < old && there >= k ? 1 : 0;
                    put(spot, other, there + step);
                }
            }
            put(spot, pane, k);
        }
    }

    /** The minimum sizes and the rectangles of the nodes that are shown. */
    private static final class Plan {
        private final int[] shown = new int[NODES];
        private final int[] minimumWidth = new int[NODES];
        private final int[] minimumHeight = new int[NODES];
        private final int[] left = new int[NODES];
        private final int[] top = new int[NODES];
        private final int[] columns = new int[NODES];
        private final int[] rows = new int[NODES];
        /** The nodes of the tree at hand: parents come before their children. */
        private final int[] listed = new int[NODES];
        private int listedCount;
        /** The children that are shown of the split at hand, in order. */
        private final int[] parts = new int[NODES];
        private final Sharing sharing = new Sharing();

        boolean isShown(int node) {
            return at(shown, node) == 1;
        }

        int leftOf(int node) {
            return at(left, node);
        }

        int topOf(int node) {
            return at(top, node);
        }

        int columnsOf(int node) {
            return at(columns, node);
        }

        int rowsOf(int node) {
            return at(rows, node);
        }

        int minimumOf(int node, int direction) {
            return at(direction == HORIZONTAL ? minimumWidth : minimumHeight, node);
        }

        int extentOf(int node, int direction) {
            return at(direction == HORIZONTAL ? columns : rows, node);
        }

        boolean contains(int node, int x, int y) {
            return isShown(node)
                && x >= leftOf(node) && x < leftOf(node) + columnsOf(node)
                && y >= topOf(node) && y < topOf(node) + rowsOf(node);
        }

        /** The side where a pane is dropped at a point that lies in the content of a group. */
        int sideAt(int group, int x, int y) {
            int toLeft = x - leftOf(group);
            int toRight = columnsOf(group) - 1 - toLeft;
            int toTop = y - topOf(group);
            int toBottom = rowsOf(group) - 1 - toTop;
            int least = Math.min(Math.min(toLeft, toRight), Math.min(toTop, toBottom));
            int side = least == toLeft ? LEFT : least == toRight ? RIGHT : least == toTop ? ABOVE : BELOW;
            return 4 * least < extentOf(group, directionOf(side)) ? side : AS_TAB;
        }

        /** By how much the divider between two neighbours moves, if it is dragged by an amount. */
        int dividerStep(int first, int second, int direction, int by) {
            int spareFirst = extentOf(first, direction) - minimumOf(first, direction);
            int spareSecond = extentOf(second, direction) - minimumOf(second, direction);
            if (spareFirst < 0 || spareSecond < 0) {
                return 0;
            }
            return Math.max(-spareFirst, Math.min(by, spareSecond));
        }

        void compute(State state) {
            Arrays.fill(shown, 0);
            for (int window = 0; window < WINDOWS; window++) {
                computeWindow(state, window);
            }
        }

        private void computeWindow(State state, int window) {
            Placement trees = state.trees;
            int root = trees.rootOf(window);
            listNodes(trees, root);
            for (int k = listedCount - 1; k >= 0; k--) {
                int node = at(listed, k);
                if (trees.kindOf(node) == GROUP) {
                    measureGroup(state, node);
                } else {
                    measureSplit(trees, node);
                }
            }
            put(left, root, at(trees.windowX, window));
            put(top, root, at(trees.windowY, window));
            put(columns, root, at(trees.windowWidth, window));
            put(rows, root, at(trees.windowHeight, window));
            for (int k = 0; k < listedCount; k++) {
                arrange(trees, at(listed, k));
            }
        }

        private void listNodes(Placement trees, int root) {
            listedCount = 0;
            list(root);
            for (int k = 0; k < NODES && k < listedCount; k++) {
                int children = trees.childCount(at(listed, k));
                for (int c = 0; c < children; c++) {
                    list(trees.childAt(at(listed, k), c));
                }
            }
        }

        private void list(int node) {
            if (node != NONE && listedCount < listed.length) {
                put(listed, listedCount, node);
                listedCount++;
            }
        }

        private void measureGroup(State state, int node) {
            int width = 0;
            int height = 0;
            for (int pane = 0; pane < PANES; pane++) {
                if (state.trees.groupOf(pane) == node && !state.trees.isHidden(pane)) {
                    width = Math.max(width, at(state.minimumWidth, pane));
                    height = Math.max(height, at(state.minimumHeight, pane));
                }
            }
            put(shown, node, width > 0 ? 1 : 0);
            put(minimumWidth, node, width);
            put(minimumHeight, node, height + 1);
        }

        private void measureSplit(Placement trees, int node) {
            int[] along = trees.kindOf(node) == HORIZONTAL ? minimumWidth : minimumHeight;
            int[] across = trees.kindOf(node) == HORIZONTAL ? minimumHeight : minimumWidth;
            int count = listParts(trees, node);
            int sum = 0;
            int greatest = 0;
            for (int k = 0; k < count; k++) {
                sum += at(along, at(parts, k));
                greatest = Math.max(greatest, at(across, at(parts, k)));
            }
            put(shown, node, count > 0 ? 1 : 0);
            put(along, node, sum + count - 1);
            put(across, node, greatest);
        }

        private int listParts(Placement trees, int split) {
            int children = trees.childCount(split);
            int count = 0;
            for (int k = 0; k < children; k++) {
                int child = trees.childAt(split, k);
                if (isShown(child)) {
                    put(parts, count, child);
                    count++;
                }
            }
            return count;
        }

        /** Gives the children of a split, which has its rectangle already, theirs. */
        private void arrange(Placement trees, int split) {
            int direction = trees.kindOf(split);
            if (direction == GROUP) {
                return;
            }
            int count = listParts(trees, split);
            sharing.begin();
            for (int k = 0; k < count; k++) {
                sharing.add(minimumOf(at(parts, k), direction), trees.weightOf(at(parts, k)));
            }
            sharing.shareOut(Math.max(0, extentOf(split, direction) - (count - 1)));
            int offset = 0;
            for (int k = 0; k < count; k++) {
                int part = at(parts, k);
                boolean beside = direction == HORIZONTAL;
                put(left, part, at(left, split) + (beside ? offset : 0));
                put(top, part, at(top, split) + (beside ? 0 : offset));
                put(columns, part, beside ? sharing.sizeOf(k) : at(columns, split));
                put(rows, part, beside ? at(rows, split) : sharing.sizeOf(k));
                offset += sharing.sizeOf(k) + 1;
            }
        }
    }

    /** Shares a number of columns or rows out among parts with minimum sizes and weights. */
    private static final class Sharing {
        private final int[] minimum = new int[NODES];
        private final int[] weight = new int[NODES];
        private final int[] size = new int[NODES];
        private final int[] open = new int[NODES];
        private final int[] remainder = new int[NODES];
        private int count;

        void begin() {
            count = 0;
        }

        void add(int partMinimum, int partWeight) {
            if (count < minimum.length) {
                put(minimum, count, partMinimum);
                put(weight, count, partWeight);
                count++;
            }
        }

        int sizeOf(int k) {
            return at(size, k);
        }

        void shareOut(int room) {
            int sum = 0;
            for (int k = 0; k < count; k++) {
                sum += at(minimum, k);
            }
            if (sum >= room) {
                giveMinimums(room);
            } else {
                giveShares(room);
            }
        }

        private void giveMinimums(int room) {
            int rest = room;
            for (int k = 0; k < count; k++) {
                int given = Math.min(at(minimum, k), rest);
                put(size, k, given);
                rest -= given;
            }
        }

        private void giveShares(int room) {
            Arrays.fill(open, 1);
            for (int round = 0; round <= count; round++) {
                if (!closeSmallShares(room)) {
                    giveRest(room);
                    return;
                }
            }
        }

        /** Works out the shares of the open parts; tells whether some were too small. */
        private boolean closeSmallShares(int room) {
            long rest = room;
            long weights = 0;
            for (int k = 0; k < count; k++) {
                rest -= at(open, k) == 1 ? 0 : at(minimum, k);
                weights += at(open, k) == 1 ? at(weight, k) : 0;
            }
            boolean closed = false;
            for (int k = 0; k < count && weights > 0; k++) {
                if (at(open, k) == 1) {
                    long product = rest * at(weight, k);
                    put(size, k, (int) (product / weights));
                    put(remainder, k, (int) (product % weights));
                    if (at(size, k) < at(minimum, k)) {
                        put(size, k, at(minimum, k));
                        put(open, k, 0);
                        closed = true;
                    }
                }
            }
            return closed;
        }

        private void giveRest(int room) {
            int rest = room;
            for (int k = 0; k < count; k++) {
                rest -= at(size, k);
            }
            for (int given = 0; given < rest && given < count; given++) {
                int best = NONE;
                for (int k = 0; k < count; k++) {
                    if (at(open, k) == 1 && at(remainder, k) > at(remainder, best)) {
                        best = k;
                    }
                }
                put(size, best, at(size, best) + 1);
                put(remainder, best, NONE);
            }
        }
    }

    /** A row of characters; one that is composed may grow beyond what can be kept. */
    private static final class Text {
        private final int[] codes = new int[TEXT_LIMIT];
        private int length;

        int length() {
            return length;
        }

        int code(int index) {
            return index < length ? at(codes, index) : NONE;
        }

        void empty() {
            length = 0;
        }

        void append(int code) {
            put(codes, length, code);
            length++;
        }

        void copyFrom(Text other) {
            copyRow(other.codes, codes);
            length = other.length;
        }
    }

    /** Reads the tree for the main window from a text, up to the first fault. */
    private static final class TreeReader {
        private final Text text = new Text();
        /**
         * The layout with the tree that is read. A text with a fault may open more nodes than there
         * are; those are not made, since nobody looks at its tree.
         */
        private final Placement trees = new Placement();
        private int position;
        private int allowed;

        int findFault(State state, Text typed) {
            text.copyFrom(typed);
            trees.copyFrom(state.trees);
            trees.emptyWindow(MAIN);
            allowed = 0;
            for (int pane = 0; pane < PANES; pane++) {
                if (state.exists(pane) && trees.groupOf(pane) == NONE) {
                    allowed |= 1 << pane;
                }
            }
            position = 0;
            boolean whole = passTree(NONE, 0, 0);
            return whole && position == text.length() ? NONE : position;
        }

        private boolean passTree(int split, int weight, int depth) {
            if (depth > DEEPEST) {
                return false;
            }
            int kind = passSign('H') ? HORIZONTAL : passSign('V') ? VERTICAL : GROUP;
            int node = trees.makeNode(kind);
            if (depth == 0) {
                trees.setRoot(MAIN, node);
            } else {
                trees.attach(node, split, trees.childCount(split), weight);
            }
            return kind == GROUP ? passTabs(node) : passChildren(node, depth);
        }

        private boolean passChildren(int split, int depth) {
            if (!passSign('(')) {
                return false;
            }
            for (int children = 1; children <= TEXT_LIMIT; children++) {
                int weight = passWeight();
                if (weight == 0 || !passSign(':') || !passTree(split, weight, depth + 1)) {
                    return false;
                }
                if (children > 1 && passSign(')')) {
                    return true;
                }
                if (!passSign(',')) {
                    return false;
                }
            }
            return false;
        }

        /** Stops before the first character that can't belong to the weight; 0 if it is the first. */
        private int passWeight() {
            int value = 0;
            for (int digits = 0; digits < TEXT_LIMIT; digits++) {
                int sign = text.code(position);
                int longer = 10 * value + sign - '0';
                if (sign < '0' || sign > '9' || longer < 1 || longer > MOST_WEIGHT) {
                    return value;
                }
                value = longer;
                position++;
            }
            return value;
        }

        private boolean passTabs(int group) {
            int starred = NONE;
            int tabs = 0;
            for (int k = 0; k < PANES; k++) {
                int pane = text.code(position) - 'a';
                if (pane < 0 || pane >= PANES || (allowed >> pane & 1) == 0) {
                    break;
                }
                allowed &= ~(1 << pane);
                position++;
                tabs++;
                trees.joinGroup(pane, group);
                if (passSign('-')) {
                    trees.hide(pane);
                } else if (starred == NONE && passSign('*')) {
                    starred = pane;
                }
            }
            trees.setActive(group, starred == NONE ? trees.shownTabAt(group, 0) : starred);
            return tabs > 0;
        }

        private boolean passSign(int sign) {
            if (text.code(position) != sign) {
                return false;
            }
            position++;
            return true;
        }
    }

    /** Writes the tree of a window as a text. */
    private static final class TreeWriter {
        private final Text written = new Text();

        void compose(Placement trees, int window) {
            written.empty();
            if (trees.rootOf(window) != NONE) {
                putTree(trees, trees.rootOf(window), 0);
            }
        }

        private void putTree(Placement trees, int node, int depth) {
            if (depth > DEEPEST) {
                return;
            }
            if (trees.kindOf(node) == GROUP) {
                putTabs(trees, node);
                return;
            }
            written.append(trees.kindOf(node) == HORIZONTAL ? 'H' : 'V');
            int children = trees.childCount(node);
            for (int k = 0; k < children; k++) {
                int child = trees.childAt(node, k);
                written.append(k == 0 ? '(' : ',');
                putNumber(trees.weightOf(child));
                written.append(':');
                putTree(trees, child, depth + 1);
            }
            written.append(')');
        }

        private void putTabs(Placement trees, int group) {
            int tabs = trees.tabCount(group);
            for (int k = 0; k < tabs; k++) {
                int pane = trees.tabAt(group, k);
                written.append('a' + pane);
                if (trees.isHidden(pane)) {
                    written.append('-');
                } else if (trees.activeOf(group) == pane) {
                    written.append('*');
                }
            }
        }

        private void putNumber(int number) {
            for (int unit = MOST_WEIGHT; unit > 0; unit /= 10) {
                if (number >= unit) {
                    written.append('0' + number / unit % 10);
                }
            }
        }
    }
}
