import java.util.ArrayList;
import java.util.Arrays;
import java.util.List;

/**
 * The sentences of the document's "Terms", each for every path, layer and sort that it speaks of. BoundaryTest has
 * those that name an edge. Parents are taken from a list that is built up from the root, not from a division.
 */
public final class TermsTest {
    private static final int FILE = OverlayTree.FILE;
    private static final int DIRECTORY = OverlayTree.DIRECTORY;
    private static final int CLOSED = OverlayTree.CLOSED;
    private static final int HOLE = OverlayTree.HOLE;
    private static final int PATHS = 85;

    private static final int[] PARENTS = parents();

    private static String sentence = "";
    private static int wrong = 0;
    private static long state = 1;

    public static void main(String[] args) {
        rowsOfPaths();
        underEachAbove();
        zeroIsTheLowest();
        everyLayerHoldsEverySort();
        layersAreApart();
        everyCover();
        onlyChangesChangeTheTree();
        layersStayAfterMounting();
        everyPathHasDirectoryAsParent();
        refusedRunsChangeNothing();
        System.out.println(wrong == 0 ? "all answers are as due" : wrong + " answers are not as due");
        if (wrong != 0) {
            System.exit(1);
        }
    }

    // ---- the sentences

    private static void rowsOfPaths() {
        says("there are four paths below the root, 16 below those, and 64 below those");
        int[] rows = new int[3];
        OverlayTree x = new OverlayTree();
        due("mount", 0, x.mount());
        for (int row = 0; row < 3; row++) {
            // From the last path down, so that no path of this row opens the way to the next one.
            for (int path = PATHS - 1; path >= 1; path--) {
                if (x.makeDir(path) == 0) {
                    rows[row]++;
                }
            }
        }
        due("the first row", 4, rows[0]);
        due("the second row", 16, rows[1]);
        due("the third row", 64, rows[2]);
        due("total", 84, x.total());
    }

    private static void underEachAbove() {
        says("A path is UNDER each of its parent, its parent's parent, and so on");
        for (int above = 1; above < PATHS; above++) {
            OverlayTree x = new OverlayTree();
            fillWithDirectories(x, 0);
            fillWayTo(x, 2, above);
            due("fill", 0, x.fill(2, above, HOLE, 0));
            int hidden = 0;
            for (int path = 1; path < PATHS; path++) {
                hidden += path == above || isUnder(path, above) ? 1 : 0;
            }
            due("mount with a hole at " + above, 84 - hidden, x.mount());
            for (int path = 1; path < PATHS; path++) {
                boolean gone = path == above || isUnder(path, above);
                due("sort(" + path + ") with a hole at " + above, gone ? 0 : DIRECTORY, x.sort(path));
            }
        }
    }

    private static void zeroIsTheLowest() {
        says("LAYERS 0, 1 and 2 are filled in first (0 is the lowest)");
        int[][] orders = {{0, 1, 2}, {0, 2, 1}, {1, 0, 2}, {1, 2, 0}, {2, 0, 1}, {2, 1, 0}};
        for (int path = 1; path < PATHS; path++) {
            for (int held = 1; held < 8; held++) {
                for (int[] order : orders) {
                    OverlayTree x = new OverlayTree();
                    int highest = 0;
                    for (int layer : order) {
                        if ((held >> layer & 1) != 0) {
                            fillWayTo(x, layer, path);
                            due("fill", 0, x.fill(layer, path, FILE, 10 * path + layer));
                            highest = layer > highest ? layer : highest;
                        }
                    }
                    due("mount", way(path).size() + 1, x.mount());
                    due("value(" + path + ") of the layers " + Integer.toBinaryString(held),
                        10 * path + highest, x.value(path));
                }
            }
        }
    }

    private static void everyLayerHoldsEverySort() {
        says("every path other than the root holds nothing, a FILE, a DIRECTORY, a CLOSED directory, or a HOLE");
        for (int layer = 0; layer < 3; layer++) {
            for (int path = 1; path < PATHS; path++) {
                for (int held = 0; held <= HOLE; held++) {
                    OverlayTree x = new OverlayTree();
                    fillWayTo(x, layer, path);
                    if (held != 0) {
                        due("fill of " + held, 0, x.fill(layer, path, held, -path));
                    }
                    int sort = sortSeen(held);
                    String what = " with " + held + " at " + path + " in layer " + layer;
                    due("mount" + what, way(path).size() + (sort == 0 ? 0 : 1), x.mount());
                    for (int other = 1; other < PATHS; other++) {
                        int want = other == path ? sort : way(path).contains(other) ? DIRECTORY : 0;
                        due("sort(" + other + ")" + what, want, x.sort(other));
                    }
                    due("value" + what, sort == FILE ? -path : 0, x.value(path));
                }
            }
        }
    }

    private static void layersAreApart() {
        says("in each layer every path holds a thing of its own");
        OverlayTree x = new OverlayTree();
        for (int layer = 0; layer < 3; layer++) {
            for (int path = 1; path < PATHS; path++) {
                if (path <= 20 || path % 3 == layer) {
                    due("fill", 0, x.fill(layer, path, path <= 20 ? DIRECTORY : FILE, 100 * layer + path));
                }
            }
        }
        due("mount", 84, x.mount());
        for (int path = 21; path < PATHS; path++) {
            due("value(" + path + ")", 100 * (path % 3) + path, x.value(path));
        }
    }

    /** What covers stands alone in its layer, under directories, over one full layer and under another way down. */
    private static void everyCover() {
        says("some path that p is under holds a file, a closed directory or a hole in that layer: nothing");
        for (int path = 1; path < PATHS; path++) {
            for (int above : way(path)) {
                for (int cover = 0; cover <= HOLE; cover++) {
                    OverlayTree x = new OverlayTree();
                    fillWayTo(x, 0, path);
                    due("fill", 0, x.fill(0, path, FILE, path));
                    fillWayTo(x, 1, above);
                    if (cover != 0) {
                        due("fill", 0, x.fill(1, above, cover, 1));
                    }
                    fillWayTo(x, 2, path);
                    boolean covered = cover == FILE || cover == CLOSED || cover == HOLE;
                    String what = path + " with " + cover + " at " + above + " between";
                    due("mount, " + what, way(path).size() + (covered ? 0 : 1), x.mount());
                    due("sort, " + what, covered ? 0 : FILE, x.sort(path));
                    due("value, " + what, covered ? 0 : path, x.value(path));
                }
            }
        }
    }

    private static void onlyChangesChangeTheTree() {
        says("the tree is changed by the calls make, makeDir, write, remove and move");
        for (int changes = 0; changes < 60; changes += 5) {
            int[] once = sortsAndValues(changedBy(0, changes));
            OverlayTree x = changedBy(0, changes);
            sortsAndValues(x);
            for (int path = 0; path <= 20; path++) {
                x.entries(path);
            }
            x.total();
            due("press", 0, x.press());
            due("mount", -1, x.mount());
            same("reading, pressing and mounting after " + changes + " changes", once, sortsAndValues(x));
        }

        says("what is asked before mounting changes no layer");
        OverlayTree x = new OverlayTree();
        fillSome(x);
        OverlayTree y = new OverlayTree();
        fillSome(y);
        for (int path = 0; path < PATHS; path++) {
            due("sort", 0, y.sort(path));
            due("value", 0, y.value(path));
            due("entries", -1, y.entries(path));
        }
        due("total", 0, y.total());
        due("mount", x.mount(), y.mount());
        same("the trees", sortsAndValues(x), sortsAndValues(y));
    }

    private static void layersStayAfterMounting() {
        says("the layers can't be filled in any more");
        for (int layer = 0; layer < 3; layer++) {
            for (int sort = FILE; sort <= HOLE; sort++) {
                for (int changes = 0; changes <= 60; changes += 20) {
                    OverlayTree x = changedBy(0, changes);
                    for (int path = 0; path < PATHS; path++) {
                        due("fill(" + layer + ", " + path + ", " + sort + ")", -1, x.fill(layer, path, sort, 1));
                    }
                    same("after the fills", sortsAndValues(changedBy(0, changes)), sortsAndValues(x));
                }
            }
        }
    }

    private static void everyPathHasDirectoryAsParent() {
        says("In the tree, every path that is not nothing has a directory as its parent");
        for (int run = 0; run < 40; run++) {
            for (int changes = 0; changes <= 250; changes += 5) {
                directoriesAbove(run, changes);
            }
        }
    }

    private static void directoriesAbove(int run, int changes) {
        OverlayTree x = changedBy(run, changes);
        String when = " in run " + run + " after " + changes + " changes";
        int[] sorts = new int[PATHS];
        int taken = 0;
        for (int path = 0; path < PATHS; path++) {
            sorts[path] = x.sort(path);
            taken += path > 0 && sorts[path] != 0 ? 1 : 0;
        }
        due("the root" + when, DIRECTORY, sorts[0]);
        for (int path = 1; path < PATHS; path++) {
            if (sorts[path] != 0) {
                due("above " + path + when, DIRECTORY, sorts[PARENTS[path]]);
            }
        }
        due("total" + when, taken, x.total());
    }

    private static void refusedRunsChangeNothing() {
        says("A refused call answers -1 and changes nothing");
        for (int changes = 0; changes <= 80; changes += 4) {
            OverlayTree x = changedBy(0, changes);
            int[] before = sortsAndValues(changedBy(0, changes));
            for (int path = 0; path < PATHS; path++) {
                if (before[path] != 0) {
                    due("make(" + path + ")", -1, x.make(path, 1));
                    due("makeDir(" + path + ")", -1, x.makeDir(path));
                }
                if (before[path] != FILE) {
                    due("write(" + path + ")", -1, x.write(path, 1));
                }
                if (before[path] == 0) {
                    due("remove(" + path + ")", -1, x.remove(path));
                }
            }
            same("after refused calls and " + changes + " changes", before, sortsAndValues(x));
        }
    }

    // ---- scenes

    private static void fillWithDirectories(OverlayTree x, int layer) {
        for (int path = 1; path < PATHS; path++) {
            due("scene", 0, x.fill(layer, path, DIRECTORY, 0));
        }
    }

    private static void fillWayTo(OverlayTree x, int layer, int path) {
        for (int above : way(path)) {
            due("scene", 0, x.fill(layer, above, DIRECTORY, 0));
        }
    }

    /** 35 calls that are the same each time; some of them are refused. */
    private static void fillSome(OverlayTree x) {
        state = 5;
        for (int path = 1; path <= 2; path++) {
            due("scene", 0, x.fill(0, path, DIRECTORY, 0));
        }
        for (int count = 0; count < 33; count++) {
            x.fill(next(3), 1 + next(20), 1 + next(4), count);
        }
    }

    /** Mounted, after the first so many calls of a run of those that change a tree; some of them are refused. */
    private static OverlayTree changedBy(int run, int changes) {
        OverlayTree x = new OverlayTree();
        fillSome(x);
        x.mount();
        state = 1000003L * run + 11;
        for (int count = 0; count < changes; count++) {
            int call = next(8);
            int path = anyPath();
            int other = anyPath();
            if (call <= 1) {
                x.make(path, count);
            } else if (call <= 3) {
                x.makeDir(path);
            } else if (call == 4) {
                x.write(path, count);
            } else if (call == 5) {
                x.remove(path);
            } else {
                x.move(path, other);
            }
        }
        return x;
    }

    /** A fixed sequence of numbers, the same at every run of the test. */
    private static int next(int bound) {
        state = state * 6364136223846793005L + 1442695040888963407L;
        return (int) ((state >>> 33) % bound);
    }

    /** Each row as likely as the others, so that there is much to move and to remove. */
    private static int anyPath() {
        int row = next(3);
        return row == 0 ? next(5) : row == 1 ? 5 + next(16) : 21 + next(64);
    }

    // ---- paths

    private static int[] parents() {
        int[] parents = new int[PATHS];
        int below = 1;
        for (int path = 0; below < PATHS; path++) {
            for (int place = 0; place < 4; place++) {
                parents[below] = path;
                below++;
            }
        }
        return parents;
    }

    /** All that a path is under, from above, without the root. */
    private static List<Integer> way(int path) {
        List<Integer> way = new ArrayList<>();
        for (int above = PARENTS[path]; above != 0; above = PARENTS[above]) {
            way.add(0, above);
        }
        return way;
    }

    private static boolean isUnder(int path, int above) {
        return way(path).contains(above);
    }

    private static int sortSeen(int held) {
        return held == FILE ? FILE : held == DIRECTORY || held == CLOSED ? DIRECTORY : 0;
    }

    // ---- checks

    /** 170 calls: first the sort of each path, then the value of each. */
    private static int[] sortsAndValues(OverlayTree x) {
        int[] answers = new int[2 * PATHS];
        for (int path = 0; path < PATHS; path++) {
            answers[path] = x.sort(path);
            answers[PATHS + path] = x.value(path);
        }
        return answers;
    }

    private static void says(String words) {
        sentence = words;
    }

    private static void same(String what, int[] want, int[] got) {
        if (!Arrays.equals(want, got)) {
            tell(what + ": something differs");
        }
    }

    private static void due(String what, int want, int got) {
        if (got != want) {
            tell(what + ": answered " + got + ", due is " + want);
        }
    }

    private static void tell(String fault) {
        wrong++;
        if (wrong <= 200) {
            System.out.println(sentence + ": " + fault);
        }
    }
}
