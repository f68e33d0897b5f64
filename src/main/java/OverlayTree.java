/** A file tree that is seen through a stack of layers, the lower ones of which are never changed again. */
public final class OverlayTree {
    public static final int FILE = 1;
    public static final int DIRECTORY = 2;
    public static final int CLOSED = 3;
    public static final int HOLE = 4;

    private static final int NOTHING = 0;
    private static final int DONE = 0;
    private static final int REFUSED = -1;

    private static final int ROOT = 0;
    private static final int PATHS = 85;
    private static final int BRANCHES = 4;
    private static final int DEPTH = 3;
    private static final int LAYERS = 3;
    private static final int CELLS = LAYERS * PATHS;

    // Layer after layer, PATHS cells each.
    private final int[] layerSort = new int[CELLS];
    private final int[] layerValue = new int[CELLS];

    // The tree stands apart from the layers, so that no change to it can reach them.
    // A path that is no file has the value 0 here.
    private final int[] treeSort = new int[PATHS];
    private final int[] treeValue = new int[PATHS];

    private boolean mounted = false;

    public OverlayTree() {
        for (int layer = 0; layer < LAYERS; layer++) {
            layerSort[layer * PATHS + ROOT] = DIRECTORY;
        }
    }

    public int fill(int layer, int path, int sort, int value) {
        if (mounted || layer < 0 || layer >= LAYERS || !isBelowRoot(path)) {
            return REFUSED;
        }
        if (sort < FILE || sort > HOLE) {
            return REFUSED;
        }
        int cell = layer * PATHS + path;
        int parentSort = layerSort[layer * PATHS + parentOf(path)];
        if (layerSort[cell] != NOTHING || !isAnyDirectory(parentSort)) {
            return REFUSED;
        }
        layerSort[cell] = sort;
        layerValue[cell] = value;
        return DONE;
    }

    public int mount() {
        if (mounted) {
            return REFUSED;
        }
        mounted = true;
        put(ROOT, DIRECTORY, 0);
        // A parent has a lower number than its paths, so it is settled before them.
        for (int path = ROOT + 1; path < PATHS; path++) {
            if (treeSort[parentOf(path)] == DIRECTORY) {
                mountPath(path);
            }
        }
        return total();
    }

    public int make(int path, int value) {
        if (!isVacant(path)) {
            return REFUSED;
        }
        put(path, FILE, value);
        return DONE;
    }

    public int makeDir(int path) {
        if (!isVacant(path)) {
            return REFUSED;
        }
        put(path, DIRECTORY, 0);
        return DONE;
    }

    public int write(int path, int value) {
        if (!mounted || !isPath(path) || treeSort[path] != FILE) {
            return REFUSED;
        }
        int before = treeValue[path];
        treeValue[path] = value;
        return before;
    }

    public int remove(int path) {
        // What is under a path hangs on what is right below it, so the entries tell enough.
        if (!isTaken(path) || countEntries(path) != 0) {
            return REFUSED;
        }
        put(path, NOTHING, 0);
        return DONE;
    }

    public int move(int from, int to) {
        if (!isTaken(from) || !isVacant(to)) {
            return REFUSED;
        }
        if (isUnder(to, from) || !fits(from, to)) {
            return REFUSED;
        }
        return carry(from, to);
    }

    public int press() {
        // The tree already holds every change, and no call looks at a single layer after mounting.
        return mounted ? DONE : REFUSED;
    }

    public int sort(int path) {
        return isPath(path) ? treeSort[path] : -1;
    }

    public int value(int path) {
        return isPath(path) ? treeValue[path] : 0;
    }

    public int entries(int path) {
        if (!isPath(path) || treeSort[path] != DIRECTORY) {
            return -1;
        }
        return countEntries(path);
    }

    public int total() {
        int count = 0;
        for (int path = ROOT + 1; path < PATHS; path++) {
            if (treeSort[path] != NOTHING) {
                count++;
            }
        }
        return count;
    }

    private static boolean isPath(int path) {
        return path >= ROOT && path < PATHS;
    }

    private static boolean isBelowRoot(int path) {
        return path > ROOT && path < PATHS;
    }

    private static boolean isAnyDirectory(int sort) {
        return sort == DIRECTORY || sort == CLOSED;
    }

    private static int parentOf(int path) {
        return (path - 1) / BRANCHES;
    }

    private static int firstBelow(int path) {
        return BRANCHES * path + 1;
    }

    private static boolean isUnder(int path, int above) {
        int up = path;
        for (int step = 0; step < DEPTH && up > ROOT; step++) {
            up = parentOf(up);
            if (up == above) {
                return true;
            }
        }
        return false;
    }

    /** Some path other than the root that is not nothing in the tree. */
    private boolean isTaken(int path) {
        return mounted && isBelowRoot(path) && treeSort[path] != NOTHING;
    }

    /** A path that is nothing and where something could be put. */
    private boolean isVacant(int path) {
        return mounted && isBelowRoot(path) && treeSort[path] == NOTHING
            && treeSort[parentOf(path)] == DIRECTORY;
    }

    private void put(int path, int sort, int value) {
        treeSort[path] = sort;
        treeValue[path] = value;
    }

    /** Settles a path whose parent is a directory of the tree. */
    private void mountPath(int path) {
        for (int layer = LAYERS - 1; layer >= 0; layer--) {
            int cell = layer * PATHS + path;
            int held = layerSort[cell];
            if (held == FILE) {
                put(path, FILE, layerValue[cell]);
                return;
            }
            if (isAnyDirectory(held)) {
                put(path, DIRECTORY, 0);
                return;
            }
            if (held == HOLE || isCovered(layer, path)) {
                return;
            }
        }
    }

    /** Whether something above the path in the layer hides what lower layers hold there. */
    private boolean isCovered(int layer, int path) {
        int up = path;
        for (int step = 0; step < DEPTH && up > ROOT; step++) {
            up = parentOf(up);
            int held = layerSort[layer * PATHS + up];
            if (held == FILE || held == CLOSED || held == HOLE) {
                return true;
            }
        }
        return false;
    }

    private int countEntries(int path) {
        int first = firstBelow(path);
        return countRow(first, BRANCHES);
    }

    /** How many of the paths from first on are not nothing; those beyond the last path are none. */
    private int countRow(int first, int width) {
        int count = 0;
        for (int path = first; path < first + width && path < PATHS; path++) {
            if (treeSort[path] != NOTHING) {
                count++;
            }
        }
        return count;
    }

    // All that is the same number of steps under a path is one row of neighbouring numbers,
    // and the same steps from another path lead to the same places of that path's row.
    // A row lies either whole within the paths or whole beyond them. What moves is never the root,
    // so with its own place it spans at most DEPTH rows.

    private boolean fits(int from, int to) {
        int source = from;
        int target = to;
        int width = 1;
        for (int step = 0; step < DEPTH; step++) {
            if (target >= PATHS && countRow(source, width) != 0) {
                return false;
            }
            source = firstBelow(source);
            target = firstBelow(target);
            width = width * BRANCHES;
        }
        return true;
    }

    private int carry(int from, int to) {
        int source = from;
        int target = to;
        int width = 1;
        int moved = 0;
        for (int step = 0; step < DEPTH; step++) {
            moved += carryRow(source, target, width);
            source = firstBelow(source);
            target = firstBelow(target);
            width = width * BRANCHES;
        }
        return moved;
    }

    /** The two rows never overlap: neither end of a move is under the other. */
    private int carryRow(int source, int target, int width) {
        int moved = 0;
        for (int place = 0; place < width && source + place < PATHS && target + place < PATHS; place++) {
            if (treeSort[source + place] != NOTHING) {
                put(target + place, treeSort[source + place], treeValue[source + place]);
                put(source + place, NOTHING, 0);
                moved++;
            }
        }
        return moved;
    }
}
