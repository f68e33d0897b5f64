import java.util.ArrayList;
import java.util.Arrays;
import java.util.List;
import java.util.function.Function;
import java.util.function.Supplier;
import java.util.function.ToIntFunction;

/**
 * Each sentence of the document that names an edge or a refusal, in a test of its own under the document's words.
 * A refused call is looked at from several sides: every probe must answer as if the call had never been made.
 */
public final class BoundaryTest {
    private static final int FILE = OverlayTree.FILE;
    private static final int DIRECTORY = OverlayTree.DIRECTORY;
    private static final int CLOSED = OverlayTree.CLOSED;
    private static final int HOLE = OverlayTree.HOLE;
    private static final int MIN = Integer.MIN_VALUE;
    private static final int MAX = Integer.MAX_VALUE;
    private static final int LAST = 84;

    private static final int[] VALUES = {MIN, MIN + 1, -2, -1, 0, 1, 2, 3, 4, 127, 128, 65536, MAX - 1, MAX};
    private static final int[] NO_PATHS = noPaths();
    private static final int[] NO_LAYERS = noLayers();
    private static final int[] NO_SORTS = {MIN, MIN + 1, -4, -1, 0, 5, 6, 7, 8, 9, 257, 65537, MAX};

    private static final List<Function<OverlayTree, int[]>> PROBES = List.of(
        BoundaryTest::readAll, x -> fillAll(x, 0), x -> fillAll(x, 1), x -> fillAll(x, 2),
        BoundaryTest::tearDownAndBuild);

    private static String sentence = "";
    private static int wrong = 0;

    public static void main(String[] args) {
        whatItIs();
        terms();
        newObject();
        fill();
        mount();
        make();
        makeDir();
        write();
        remove();
        move();
        press();
        sort();
        value();
        entries();
        total();
        System.out.println(wrong == 0 ? "all answers are as due" : wrong + " answers are not as due");
        if (wrong != 0) {
            System.exit(1);
        }
    }

    // ---- What it is

    private static void whatItIs() {
        lastCallReads();
        lastCallMounts();
        lastCallAfterWrites();
        lastCallAfterMakes();
        lastCallAfterMoves();
        lastCallAfterRefusals();
        callsBeyondTheLast();
    }

    private static void lastCallReads() {
        says("used for at most 512 calls: full layers, then reading");
        OverlayTree x = fullLayers();
        due("mount", 84, x.mount());
        for (int path = 0; path <= LAST; path++) {
            due("sort(" + path + ")", path < 21 ? DIRECTORY : FILE, x.sort(path));
            due("value(" + path + ")", path < 21 ? 0 : 200 + path, x.value(path));
            due("entries(" + path + ")", path < 21 ? 4 : -1, x.entries(path));
        }
        due("total, call 509", 84, x.total());
        due("write, call 510", 284, x.write(84, 7));
        due("remove, call 511", 0, x.remove(83));
        due("entries, call 512", 3, x.entries(20));
    }

    private static void lastCallMounts() {
        says("used for at most 512 calls: mounting is the last");
        OverlayTree x = new OverlayTree();
        for (int call = 1; call <= 510; call++) {
            due("total, call " + call, 0, x.total());
        }
        due("fill, call 511", 0, x.fill(1, 4, FILE, 9));
        due("mount, call 512", 1, x.mount());
    }

    private static void lastCallAfterWrites() {
        says("used for at most 512 calls: writing and pressing");
        OverlayTree x = emptyMounted();
        due("make", 0, x.make(1, 0));
        for (int count = 1; count <= 170; count++) {
            due("write", count - 1, x.write(1, count));
            due("press", 0, x.press());
            due("value after write and press " + count, count, x.value(1));
        }
    }

    private static void lastCallAfterMakes() {
        says("used for at most 512 calls: making, pressing and removing");
        OverlayTree x = emptyMounted();
        for (int count = 1; count <= 73; count++) {
            due("makeDir", 0, x.makeDir(2));
            due("make", 0, x.make(9, count));
            due("press", 0, x.press());
            due("remove", 0, x.remove(9));
            due("press", 0, x.press());
            due("remove", 0, x.remove(2));
            due("total after round " + count, 0, x.total());
        }
    }

    private static void lastCallAfterMoves() {
        says("used for at most 512 calls: moving to and fro");
        OverlayTree x = emptyMounted();
        due("makeDir", 0, x.makeDir(1));
        due("make", 0, x.make(8, 88));
        for (int count = 1; count <= 254; count++) {
            due("move to " + count, 2, x.move(1, 4));
            due("move fro " + count, 2, x.move(4, 1));
        }
        due("value, call 512", 88, x.value(8));
    }

    private static void lastCallAfterRefusals() {
        says("used for at most 512 calls: refused ones among them");
        OverlayTree x = new OverlayTree();
        due("fill", 0, x.fill(0, 2, DIRECTORY, 0));
        for (int count = 1; count <= 254; count++) {
            due("make before mounting", -1, x.make(1, 1));
        }
        due("mount", 1, x.mount());
        for (int count = 1; count <= 255; count++) {
            due("mount again", -1, x.mount());
        }
        due("make, call 512", 0, x.make(12, 1));
    }

    /** What these answer is free, but LANGUAGE.md has no call ever throw. */
    private static void callsBeyondTheLast() {
        says("what later calls answer is free");
        OverlayTree x = new OverlayTree();
        for (int round = 0; round < 200; round++) {
            for (int path : new int[] {MIN, -1, 0, 1, 5, 21, 84, 85, MAX}) {
                x.fill(round % 4, path, 1 + round % 4, round);
                if (round > 50) {
                    x.mount();
                }
                x.make(path, round);
                x.makeDir(path);
                x.write(path, round);
                x.move(path, 1 + round % 84);
                x.press();
                x.remove(path);
                x.sort(path);
                x.value(path);
                x.entries(path);
                x.total();
            }
        }
    }

    // ---- Terms

    private static void terms() {
        pathNumbers();
        pathsRightBelow();
        lastRowHasNoneBelow();
        valuesAreInts();
        rootIsDirectoryInEveryLayer();
        parentIsNoDirectory();
        someThingAboveCovers();
        nothingInAnyLayer();
        everyPathHasDirectoryAbove();
        pathsOutOfRange();
    }

    private static void pathNumbers() {
        says("PATHS are the numbers 0 to 84");
        OverlayTree x = fullTree();
        due("sort(-1)", -1, x.sort(-1));
        due("sort(0)", DIRECTORY, x.sort(0));
        due("sort(84)", FILE, x.sort(84));
        due("sort(85)", -1, x.sort(85));
        due("value(84)", 84, x.value(84));
        due("value(85)", 0, x.value(85));
        due("entries(-1)", -1, x.entries(-1));
        due("entries(0)", 4, x.entries(0));
        due("write(84)", 84, x.write(84, 1));
        due("write(85)", -1, x.write(85, 1));
        due("remove(85)", -1, x.remove(85));
        due("remove(84)", 0, x.remove(84));
        due("make(85)", -1, x.make(85, 1));
        due("make(84)", 0, x.make(84, 1));
        due("remove(1)", -1, x.remove(1));
        due("total", 84, x.total());
    }

    /** With directories on the way to one path alone, exactly the paths right below these can be made. */
    private static void pathsRightBelow() {
        says("the four paths right below path p are 4 * p + 1 to 4 * p + 4 (if these are at most 84)");
        for (int end = 0; end <= LAST; end++) {
            int[] way = wayTo(end);
            for (int layer = 0; layer < 3; layer++) {
                OverlayTree x = new OverlayTree();
                for (int path : way) {
                    due("fill of a directory", 0, x.fill(layer, path, DIRECTORY, 0));
                }
                for (int path = LAST; path >= 1; path--) {
                    int want = isRightBelowWay(way, path) ? 0 : -1;
                    due("fill of " + path + " with directories to " + end, want, x.fill(layer, path, FILE, path));
                }
            }
            OverlayTree x = emptyMounted();
            for (int path : way) {
                due("makeDir", 0, x.makeDir(path));
            }
            for (int path = LAST; path >= 1; path--) {
                int want = isRightBelowWay(way, path) ? 0 : -1;
                due("make of " + path + " with directories to " + end, want, x.make(path, path));
            }
            due("entries of " + end, end < 21 ? 4 : 0, x.entries(end));
        }
    }

    private static void lastRowHasNoneBelow() {
        says("64 below those, which have none below them");
        OverlayTree x = emptyMounted();
        for (int path = 1; path <= LAST; path++) {
            due("makeDir(" + path + ")", 0, x.makeDir(path));
        }
        for (int path = 21; path <= LAST; path++) {
            due("entries(" + path + ")", 0, x.entries(path));
            due("make right below " + path, -1, x.make(4 * path + 1, 1));
            due("makeDir right below " + path, -1, x.makeDir(4 * path + 4));
        }
        due("total", 84, x.total());
        for (int path = 21; path <= LAST; path++) {
            due("remove(" + path + ")", 0, x.remove(path));
        }
        due("total", 20, x.total());
    }

    private static void valuesAreInts() {
        says("a FILE with a value (an int)");
        for (int value : VALUES) {
            for (int layer = 0; layer < 3; layer++) {
                OverlayTree x = new OverlayTree();
                due("fill with " + value, 0, x.fill(layer, 3, FILE, value));
                due("mount", 1, x.mount());
                due("value " + value + " of layer " + layer, value, x.value(3));
                due("sort with " + value, FILE, x.sort(3));
            }
        }
    }

    private static void rootIsDirectoryInEveryLayer() {
        says("The root is a directory in every layer");
        for (int layer = 0; layer < 3; layer++) {
            for (int path = 1; path <= 4; path++) {
                for (int sort = FILE; sort <= HOLE; sort++) {
                    OverlayTree x = new OverlayTree();
                    due("fill(" + layer + ", " + path + ", " + sort + ")", 0, x.fill(layer, path, sort, 1));
                }
            }
        }
        says("The root is a directory of the tree");
        OverlayTree x = emptyMounted();
        due("sort(0)", DIRECTORY, x.sort(0));
        due("entries(0)", 0, x.entries(0));
        due("make right below", 0, x.make(4, 1));
        x = new OverlayTree();
        for (int layer = 0; layer < 3; layer++) {
            for (int path = 1; path <= 4; path++) {
                due("fill with a hole", 0, x.fill(layer, path, HOLE, 0));
            }
        }
        due("mount of holes alone", 0, x.mount());
        due("sort(0)", DIRECTORY, x.sort(0));
    }

    private static void parentIsNoDirectory() {
        says("If its parent is not a directory in the tree, nothing");
        for (int above : new int[] {FILE, HOLE}) {
            OverlayTree x = chainInLowest();
            due("fill", 0, x.fill(2, 1, above, 3));
            due("mount", above == FILE ? 1 : 0, x.mount());
            due("right below", 0, x.sort(5));
            due("two steps below", 0, x.sort(21));
            due("its value", 0, x.value(21));
        }
    }

    private static void someThingAboveCovers() {
        says("some path that p is under holds a file, a closed directory or a hole in that layer: nothing");
        for (int cover = FILE; cover <= HOLE; cover++) {
            boolean covers = cover != DIRECTORY;
            OverlayTree x = chainInLowest();
            due("fill", 0, x.fill(1, 1, cover, 3));
            due("fill", 0, x.fill(2, 1, DIRECTORY, 0));
            due("mount with " + cover + " one step above", covers ? 1 : 3, x.mount());
            due("sort(5)", covers ? 0 : DIRECTORY, x.sort(5));
            x = chainInLowest();
            due("fill", 0, x.fill(1, 1, cover, 3));
            due("fill", 0, x.fill(2, 1, DIRECTORY, 0));
            due("fill", 0, x.fill(2, 5, DIRECTORY, 0));
            due("mount with " + cover + " two steps above", covers ? 2 : 3, x.mount());
            due("value(21)", covers ? 0 : 21, x.value(21));
        }
        OverlayTree x = chainInLowest();
        due("fill", 0, x.fill(0, 2, FILE, 22));
        due("fill", 0, x.fill(2, 1, CLOSED, 0));
        due("fill", 0, x.fill(2, 8, FILE, 88));
        due("mount with a closed directory that holds something", 3, x.mount());
        due("what it holds itself", 88, x.value(8));
        due("what a lower layer holds", 0, x.sort(5));
        due("what is beside it", 22, x.value(2));
    }

    private static void nothingInAnyLayer() {
        says("After the last one: nothing");
        OverlayTree x = chainInLowest();
        due("mount", 3, x.mount());
        for (int path = 1; path <= LAST; path++) {
            int want = path == 21 ? FILE : path == 1 || path == 5 ? DIRECTORY : 0;
            due("sort(" + path + ")", want, x.sort(path));
        }
    }

    private static void everyPathHasDirectoryAbove() {
        says("every path that is not nothing has a directory as its parent");
        OverlayTree x = fullTree();
        due("move of a tree to its own root is refused", -1, x.move(1, 0));
        for (int path = 69; path <= LAST; path++) {
            due("remove(" + path + ")", 0, x.remove(path));
        }
        for (int path = 17; path <= 20; path++) {
            due("remove(" + path + ")", 0, x.remove(path));
        }
        due("remove(4)", 0, x.remove(4));
        due("move", 21, x.move(2, 4));
        for (int path = 1; path <= LAST; path++) {
            if (x.sort(path) != 0) {
                due("what is above " + path, DIRECTORY, x.sort((path - 1) / 4));
            }
        }
        due("total", 63, x.total());
    }

    private static void pathsOutOfRange() {
        says("Paths out of range are refused (value answers 0 for them)");
        List<Supplier<OverlayTree>> scenes = List.of(OverlayTree::new, BoundaryTest::filled,
            BoundaryTest::emptyMounted, BoundaryTest::mountedTree, BoundaryTest::changedTree, BoundaryTest::fullTree);
        for (Supplier<OverlayTree> scene : scenes) {
            for (int path : NO_PATHS) {
                OverlayTree x = scene.get();
                due("fill " + path, -1, x.fill(0, path, FILE, 1));
                due("fill " + path, -1, x.fill(2, path, DIRECTORY, 1));
                due("make " + path, -1, x.make(path, 1));
                due("makeDir " + path, -1, x.makeDir(path));
                due("write " + path, -1, x.write(path, 1));
                due("remove " + path, -1, x.remove(path));
                due("move from " + path, -1, x.move(path, 3));
                due("move to " + path, -1, x.move(9, path));
                due("move within " + path, -1, x.move(path, path));
                due("sort " + path, -1, x.sort(path));
                due("value " + path, 0, x.value(path));
                due("entries " + path, -1, x.entries(path));
                same("path " + path, readAll(scene.get()), readAll(x));
            }
        }
    }

    // ---- Promise 1: A new object

    private static void newObject() {
        says("All layers are empty");
        for (int layer = 0; layer < 3; layer++) {
            OverlayTree x = new OverlayTree();
            for (int path = 1; path <= LAST; path++) {
                due("fill(" + layer + ", " + path + ")", 0, x.fill(layer, path, DIRECTORY, 0));
            }
        }
        due("mount", 0, new OverlayTree().mount());

        says("nothing is mounted");
        OverlayTree x = new OverlayTree();
        for (int path = 0; path <= LAST; path++) {
            due("sort(" + path + ")", 0, x.sort(path));
            due("value(" + path + ")", 0, x.value(path));
            due("entries(" + path + ")", -1, x.entries(path));
        }
        due("total", 0, x.total());
        due("press", -1, x.press());
        due("fill", 0, x.fill(0, 1, FILE, 1));
        due("mount", 1, x.mount());

        says("a new object beside another one");
        OverlayTree y = new OverlayTree();
        due("its sort(1)", 0, y.sort(1));
        due("its mount", 0, y.mount());
        due("the other's total", 1, x.total());
    }

    // ---- Promise 2: fill

    private static void fill() {
        fillRefusedIfMounted();
        fillLayers();
        fillPaths();
        fillSorts();
        fillOverSomething();
        fillBelowNoDirectory();
        fillFullLayers();
    }

    private static void fillRefusedIfMounted() {
        says("fill is refused if mounted; the layers can't be filled in any more");
        for (int layer = 0; layer < 3; layer++) {
            int l = layer;
            for (int sort = FILE; sort <= HOLE; sort++) {
                int s = sort;
                refused("in an empty tree", BoundaryTest::emptyMounted, x -> x.fill(l, 1, s, 9));
                refused("over nothing", BoundaryTest::mountedTree, x -> x.fill(l, 4, s, 9));
                refused("over a file", BoundaryTest::mountedTree, x -> x.fill(l, 6, s, 9));
                refused("over a removed file", BoundaryTest::changedTree, x -> x.fill(l, 6, s, 9));
                refused("after press", BoundaryTest::pressedTree, x -> x.fill(l, 4, s, 9));
            }
            OverlayTree x = mountedTree();
            for (int path = 1; path <= LAST; path++) {
                due("fill(" + layer + ", " + path + ")", -1, x.fill(layer, path, FILE, 9));
            }
            same("fills of layer " + layer, readAll(mountedTree()), readAll(x));
        }
    }

    private static void fillLayers() {
        says("fill is refused if layer is not from 0 to 2");
        for (int layer : NO_LAYERS) {
            refused("layer " + layer, OverlayTree::new, x -> x.fill(layer, 1, FILE, 1));
            refused("layer " + layer, BoundaryTest::filled, x -> x.fill(layer, 4, DIRECTORY, 1));
            refused("layer " + layer + " with path 86", OverlayTree::new, x -> x.fill(layer, 86, FILE, 1));
        }
        for (int layer = 0; layer <= 2; layer++) {
            OverlayTree x = new OverlayTree();
            due("layer " + layer, 0, x.fill(layer, 1, FILE, 40 + layer));
            due("mount", 1, x.mount());
            due("value", 40 + layer, x.value(1));
        }
    }

    private static void fillPaths() {
        says("fill is refused if path is not from 1 to 84");
        for (int layer = 0; layer < 3; layer++) {
            int l = layer;
            for (int sort = FILE; sort <= HOLE; sort++) {
                int s = sort;
                refused("path 0", BoundaryTest::filled, x -> x.fill(l, 0, s, 1));
                refused("path 0 of a new object", OverlayTree::new, x -> x.fill(l, 0, s, 1));
            }
            for (int path : NO_PATHS) {
                refused("path " + path, BoundaryTest::filled, x -> x.fill(l, path, FILE, 1));
            }
            OverlayTree x = new OverlayTree();
            due("path 1", 0, x.fill(layer, 1, FILE, 1));
            due("path 4", 0, x.fill(layer, 4, DIRECTORY, 1));
            due("path 20", 0, x.fill(layer, 20, CLOSED, 1));
            due("path 84", 0, x.fill(layer, 84, FILE, 85));
            due("mount", 4, x.mount());
            due("value(84)", 85, x.value(84));
        }
        Supplier<OverlayTree> directories = BoundaryTest::directoriesInLowest;
        for (int path = 85; path <= 90; path++) {
            int p = path;
            refused("path " + path + " below a directory", directories, x -> x.fill(0, p, FILE, 1));
        }
    }

    private static void fillSorts() {
        says("fill is refused if sort is not from 1 to 4");
        for (int sort : NO_SORTS) {
            refused("sort " + sort, OverlayTree::new, x -> x.fill(0, 1, sort, 1));
            refused("sort " + sort, BoundaryTest::filled, x -> x.fill(2, 10, sort, 1));
        }
        int[] seen = {FILE, DIRECTORY, DIRECTORY, 0};
        for (int sort = 1; sort <= 4; sort++) {
            OverlayTree x = new OverlayTree();
            due("sort " + sort, 0, x.fill(0, 1, sort, 1));
            due("mount", seen[sort - 1] == 0 ? 0 : 1, x.mount());
            due("sort(1)", seen[sort - 1], x.sort(1));
        }
    }

    private static void fillOverSomething() {
        says("fill is refused if the path holds something in that layer");
        for (int layer = 0; layer < 3; layer++) {
            for (int held = FILE; held <= HOLE; held++) {
                for (int sort = FILE; sort <= HOLE; sort++) {
                    int l = layer;
                    int h = held;
                    int s = sort;
                    refused("sort " + sort + " over " + held + " in layer " + layer,
                        () -> holding(l, h), x -> x.fill(l, 2, s, 9));
                    OverlayTree x = holding(layer, held);
                    due("in another layer", 0, x.fill((layer + 1) % 3, 2, sort, 9));
                }
            }
        }
    }

    private static void fillBelowNoDirectory() {
        says("fill is refused if its parent is not a directory (closed or not) in that layer");
        for (int layer = 0; layer < 3; layer++) {
            int l = layer;
            for (int sort = FILE; sort <= HOLE; sort++) {
                int s = sort;
                refused("below nothing", OverlayTree::new, x -> x.fill(l, 5, s, 9));
                refused("two steps below the root", BoundaryTest::filled, x -> x.fill(l, 20, s, 9));
                refused("three steps below the root", BoundaryTest::filled, x -> x.fill(l, 84, s, 9));
                refused("below a file", () -> holding(l, FILE), x -> x.fill(l, 9, s, 9));
                refused("below a hole", () -> holding(l, HOLE), x -> x.fill(l, 12, s, 9));
                refused("two steps below a directory", () -> holding(l, DIRECTORY), x -> x.fill(l, 37, s, 9));
                refused("below a directory of another layer", () -> holding((l + 1) % 3, DIRECTORY),
                    x -> x.fill(l, 9, s, 9));
                refused("below a closed directory of another layer", () -> holding((l + 2) % 3, CLOSED),
                    x -> x.fill(l, 9, s, 9));
                due("below a directory", 0, holding(layer, DIRECTORY).fill(layer, 9, sort, 9));
                due("below a closed directory", 0, holding(layer, CLOSED).fill(layer, 12, sort, 9));
            }
        }
    }

    private static void fillFullLayers() {
        says("fill is refused at every path of full layers");
        OverlayTree x = fullLayers();
        for (int layer = 0; layer < 3; layer++) {
            for (int path = 1; path <= LAST; path++) {
                due("fill(" + layer + ", " + path + ")", -1, x.fill(layer, path, HOLE, 1));
            }
        }
        due("mount", 84, x.mount());
        due("value(84)", 284, x.value(84));
        due("value(21)", 221, x.value(21));
    }

    // ---- Promise 3: mount

    private static void mount() {
        says("mount is refused if mounted");
        refused("empty", BoundaryTest::emptyMounted, OverlayTree::mount);
        refused("as mounted", BoundaryTest::mountedTree, OverlayTree::mount);
        refused("after changes", BoundaryTest::changedTree, OverlayTree::mount);
        refused("after press", BoundaryTest::pressedTree, OverlayTree::mount);
        refused("full", BoundaryTest::fullTree, OverlayTree::mount);

        says("mount answers how many paths are files or directories of the tree, without the root");
        due("no path", 0, new OverlayTree().mount());
        due("every path of one layer", 84, directoriesInLowest().mount());
        due("every path of three layers", 84, fullLayers().mount());
        for (int sort = FILE; sort <= HOLE; sort++) {
            due("one path of sort " + sort, sort == HOLE ? 0 : 1, holding(1, sort).mount());
        }
        OverlayTree x = directoriesInLowest();
        due("fill", 0, x.fill(2, 1, HOLE, 0));
        due("without what a hole hides", 63, x.mount());
        x = directoriesInLowest();
        due("fill", 0, x.fill(1, 4, FILE, 0));
        due("without what a file hides", 64, x.mount());
        x = directoriesInLowest();
        due("fill", 0, x.fill(2, 2, CLOSED, 0));
        due("without what a closed directory hides", 64, x.mount());
    }

    // ---- Promise 4 and 5: make and makeDir

    private interface PathCall {
        int on(OverlayTree x, int path);
    }

    private static void make() {
        vacancyRefusals("make", (x, path) -> x.make(path, 7));
        says("make: becomes a file with the value");
        for (int value : VALUES) {
            OverlayTree x = emptyMounted();
            due("make with " + value, 0, x.make(1, value));
            due("sort(1)", FILE, x.sort(1));
            due("value(1)", value, x.value(1));
            due("entries(1)", -1, x.entries(1));
        }
    }

    private static void makeDir() {
        vacancyRefusals("makeDir", OverlayTree::makeDir);
        says("makeDir: a directory with nothing in it");
        OverlayTree x = chainInLowest();
        due("mount", 3, x.mount());
        due("remove", 0, x.remove(21));
        due("remove", 0, x.remove(5));
        due("remove", 0, x.remove(1));
        due("where the layers hold things below", 0, x.makeDir(1));
        due("entries(1)", 0, x.entries(1));
        due("sort(5)", 0, x.sort(5));
        due("one step further", 0, x.makeDir(5));
        due("entries(5)", 0, x.entries(5));
        due("sort(21)", 0, x.sort(21));
        due("value(21)", 0, x.value(21));
    }

    private static void vacancyRefusals(String name, PathCall call) {
        says(name + " is refused if not mounted");
        refused("a new object", OverlayTree::new, x -> call.on(x, 1));
        refused("right below the root", BoundaryTest::filled, x -> call.on(x, 3));
        refused("below a filled directory", BoundaryTest::filled, x -> call.on(x, 10));

        says(name + " is refused if path is not from 1 to 84");
        refused("path 0", BoundaryTest::emptyMounted, x -> call.on(x, 0));
        refused("path 0 of a full tree", BoundaryTest::fullTree, x -> call.on(x, 0));
        for (int path : NO_PATHS) {
            refused("path " + path, BoundaryTest::mountedTree, x -> call.on(x, path));
        }
        for (int path = 85; path <= 90; path++) {
            int p = path;
            refused("path " + path + " below a directory", BoundaryTest::directoryTree, x -> call.on(x, p));
        }
        OverlayTree y = emptyMounted();
        due("path 1", 0, call.on(y, 1));
        y = directoryTree();
        due("remove", 0, y.remove(84));
        due("path 84", 0, call.on(y, 84));

        says(name + " is refused if the path is not nothing");
        refused("a file", BoundaryTest::mountedTree, x -> call.on(x, 6));
        refused("a directory", BoundaryTest::mountedTree, x -> call.on(x, 2));
        refused("a closed directory", BoundaryTest::mountedTree, x -> call.on(x, 1));
        refused("a file that was made", BoundaryTest::changedTree, x -> call.on(x, 3));
        refused("a directory that was made", BoundaryTest::changedTree, x -> call.on(x, 5));
        refused("a file that was moved there", BoundaryTest::changedTree, x -> call.on(x, 21));
        for (int path = 1; path <= LAST; path++) {
            int p = path;
            refused("path " + path + " of a full tree", BoundaryTest::fullTree, x -> call.on(x, p));
        }
        due("where a hole was", 0, call.on(mountedTree(), 5));
        due("where a file was removed", 0, call.on(changedTree(), 6));
        due("where a file was moved away", 0, call.on(changedTree(), 9));

        says(name + " is refused if its parent is not a directory of the tree");
        refused("below nothing", BoundaryTest::mountedTree, x -> call.on(x, 13));
        refused("below a file", BoundaryTest::mountedTree, x -> call.on(x, 25));
        refused("below a hole", BoundaryTest::mountedTree, x -> call.on(x, 21));
        refused("below a removed file", BoundaryTest::changedTree, x -> call.on(x, 25));
        refused("two steps below a directory", BoundaryTest::mountedTree, x -> call.on(x, 33));
        refused("three steps below the root", BoundaryTest::emptyMounted, x -> call.on(x, 84));
        refused("below a removed directory", BoundaryTest::removedDirectory, x -> call.on(x, 17));
        refused("below a directory moved away", BoundaryTest::movedDirectory, x -> call.on(x, 9));
        due("below a directory moved there", 0, call.on(movedDirectory(), 13));
    }

    // ---- Promise 6: write

    private static void write() {
        says("write is refused if not mounted");
        refused("a file of layer 1", BoundaryTest::filled, x -> x.write(6, 1));
        refused("a file of layer 2", BoundaryTest::filled, x -> x.write(9, 1));
        refused("a new object", OverlayTree::new, x -> x.write(1, 1));

        says("write is refused if the path is no file of the tree");
        refused("the root", BoundaryTest::mountedTree, x -> x.write(0, 1));
        refused("a directory", BoundaryTest::mountedTree, x -> x.write(2, 1));
        refused("a closed directory", BoundaryTest::mountedTree, x -> x.write(1, 1));
        refused("nothing", BoundaryTest::mountedTree, x -> x.write(3, 1));
        refused("a file under a hole", BoundaryTest::mountedTree, x -> x.write(5, 1));
        refused("a file hidden by a closed directory", BoundaryTest::mountedTree, x -> x.write(7, 1));
        refused("a removed file", BoundaryTest::changedTree, x -> x.write(6, 1));
        refused("a file moved away", BoundaryTest::changedTree, x -> x.write(9, 1));
        refused("a directory that was made", BoundaryTest::changedTree, x -> x.write(5, 1));
        for (int path : NO_PATHS) {
            refused("path " + path, BoundaryTest::mountedTree, x -> x.write(path, 1));
        }

        says("write answers the value before");
        OverlayTree x = emptyMounted();
        due("make", 0, x.make(1, 77));
        int before = 77;
        for (int value : VALUES) {
            due("write of " + value, before, x.write(1, value));
            due("value(1)", value, x.value(1));
            before = value;
        }
        due("the value it has already", before, x.write(1, before));
        due("value(1)", before, x.value(1));
        due("the last path of a full tree", 84, fullTree().write(84, 0));
        due("a file moved there", 98, changedTree().write(21, 0));
    }

    // ---- Promise 7: remove

    private static void remove() {
        says("remove is refused if not mounted");
        refused("a file of a layer", BoundaryTest::filled, x -> x.remove(9));
        refused("a new object", OverlayTree::new, x -> x.remove(1));

        says("remove is refused if it is the root");
        refused("of an empty tree", BoundaryTest::emptyMounted, x -> x.remove(0));
        refused("of a tree", BoundaryTest::mountedTree, x -> x.remove(0));
        refused("of a full tree", BoundaryTest::fullTree, x -> x.remove(0));

        says("remove is refused if it is nothing");
        for (int path = 1; path <= LAST; path++) {
            int p = path;
            refused("path " + path + " of an empty tree", BoundaryTest::emptyMounted, x -> x.remove(p));
        }
        refused("below a directory", BoundaryTest::mountedTree, x -> x.remove(10));
        refused("a file under a hole", BoundaryTest::mountedTree, x -> x.remove(5));
        refused("a file removed before", BoundaryTest::changedTree, x -> x.remove(6));
        refused("a file moved away", BoundaryTest::changedTree, x -> x.remove(9));
        refused("a directory removed before", BoundaryTest::removedDirectory, x -> x.remove(4));
        for (int path : NO_PATHS) {
            refused("path " + path, BoundaryTest::mountedTree, x -> x.remove(path));
        }

        says("remove is refused if it is a directory and some path under it is not nothing");
        for (int path = 5; path <= LAST; path++) {
            int p = path;
            int[] way = wayTo((path - 1) / 4);
            for (int above : way) {
                refused("directory " + above + " with a file at " + path, () -> oneFile(p), x -> x.remove(above));
                refused("directory " + above + " with a directory at " + path, () -> oneDirectory(p),
                    x -> x.remove(above));
            }
            OverlayTree y = oneFile(path);
            due("the file " + path, 0, y.remove(path));
            for (int place = way.length - 1; place >= 0; place--) {
                due("directory " + way[place] + " when empty", 0, y.remove(way[place]));
            }
            due("total", 0, y.total());
        }
        for (int path = 1; path <= 20; path++) {
            int p = path;
            refused("directory " + path + " of a full tree", BoundaryTest::fullTree, x -> x.remove(p));
        }

        says("remove: what the layers hold does not come back");
        OverlayTree y = mountedTree();
        due("a file over nothing", 0, y.remove(6));
        due("sort(6)", 0, y.sort(6));
        due("value(6)", 0, y.value(6));
        due("an empty closed directory over a full one", 0, y.remove(1));
        due("sort(1)", 0, y.sort(1));
        due("sort(5)", 0, y.sort(5));
        due("total", 2, y.total());
    }

    // ---- Promise 8: move

    private static void move() {
        moveRefusedIfNotMounted();
        moveFromRootOrNothing();
        moveToSomething();
        moveToBelowNoDirectory();
        moveToUnderFrom();
        moveBeyondTheLastPath();
        moveOutOfRange();
        moveAnswersHowMany();
    }

    private static void moveRefusedIfNotMounted() {
        says("move is refused if not mounted");
        refused("a new object", OverlayTree::new, x -> x.move(1, 2));
        for (int to = 0; to <= LAST; to++) {
            int t = to;
            refused("a file to " + to, BoundaryTest::filled, x -> x.move(9, t));
        }
    }

    private static void moveFromRootOrNothing() {
        for (int to = 0; to <= LAST; to++) {
            int t = to;
            says("move is refused if from is the root");
            refused("to " + to, BoundaryTest::mountedTree, x -> x.move(0, t));
            refused("of an empty tree, to " + to, BoundaryTest::emptyMounted, x -> x.move(0, t));
            says("move is refused if from is nothing");
            refused("to " + to, BoundaryTest::mountedTree, x -> x.move(4, t));
            refused("a file under a hole, to " + to, BoundaryTest::mountedTree, x -> x.move(5, t));
            refused("a removed file, to " + to, BoundaryTest::changedTree, x -> x.move(6, t));
            refused("a file moved away, to " + to, BoundaryTest::changedTree, x -> x.move(9, t));
        }
    }

    private static void moveToSomething() {
        says("move is refused if to is not nothing");
        refused("the root", BoundaryTest::mountedTree, x -> x.move(6, 0));
        refused("a file to a file", BoundaryTest::mountedTree, x -> x.move(6, 9));
        refused("a file to a directory", BoundaryTest::mountedTree, x -> x.move(6, 2));
        refused("a file to its own directory", BoundaryTest::mountedTree, x -> x.move(6, 1));
        refused("a file to itself", BoundaryTest::mountedTree, x -> x.move(6, 6));
        refused("a directory to itself", BoundaryTest::mountedTree, x -> x.move(2, 2));
        refused("a directory to a file", BoundaryTest::mountedTree, x -> x.move(2, 6));
        refused("a directory to a directory", BoundaryTest::mountedTree, x -> x.move(1, 2));
        refused("a file to an empty directory", BoundaryTest::movedDirectory, x -> x.move(1, 3));
        for (int to = 0; to <= LAST; to++) {
            int t = to;
            refused("in a full tree to " + to, BoundaryTest::fullTree, x -> x.move(84, t));
            refused("a full directory to " + to, BoundaryTest::fullTree, x -> x.move(2, t));
        }
    }

    private static void moveToBelowNoDirectory() {
        says("move is refused if its parent is no directory of the tree");
        refused("below nothing", BoundaryTest::mountedTree, x -> x.move(6, 13));
        refused("below a file", BoundaryTest::mountedTree, x -> x.move(6, 37));
        refused("a directory below a file", BoundaryTest::mountedTree, x -> x.move(2, 25));
        refused("below a hole", BoundaryTest::mountedTree, x -> x.move(6, 21));
        refused("below itself, a file", BoundaryTest::mountedTree, x -> x.move(6, 25));
        refused("two steps below a directory", BoundaryTest::mountedTree, x -> x.move(6, 33));
        refused("below a removed file", BoundaryTest::changedTree, x -> x.move(3, 25));
        refused("below a removed directory", BoundaryTest::removedDirectory, x -> x.move(1, 17));
        refused("below a directory moved away", BoundaryTest::movedDirectory, x -> x.move(1, 9));
        due("below a directory moved there", 1, movedDirectory().move(1, 13));
    }

    private static void moveToUnderFrom() {
        says("move is refused if to is under from");
        for (int from = 1; from <= 20; from++) {
            int f = from;
            for (int to = 4 * from + 1; to <= 4 * from + 4; to++) {
                int t = to;
                refused(from + " to " + to, () -> oneDirectory(f), x -> x.move(f, t));
            }
        }
        for (int from = 1; from <= 4; from++) {
            int f = from;
            for (int between = 4 * from + 1; between <= 4 * from + 4; between++) {
                int b = between;
                for (int to = 4 * between + 1; to <= 4 * between + 4; to++) {
                    int t = to;
                    refused(from + " to " + to, () -> oneDirectory(b), x -> x.move(f, t));
                }
            }
        }
        OverlayTree x = oneDirectory(5);
        due("beside from", 1, x.move(5, 6));
        due("above from", 1, x.move(6, 2));
        due("where from was under", 1, x.move(2, 8));
    }

    private static void moveBeyondTheLastPath() {
        says("move is refused if something that is under from would get no path from 0 to 84");
        for (int path = 9; path <= 12; path++) {
            int p = path;
            for (int to = 21; to <= 24; to++) {
                int t = to;
                refused(path + " with directory 2 to " + to, () -> besideDirectoryFive(p), x -> x.move(2, t));
            }
            for (int to = 6; to <= 8; to++) {
                OverlayTree x = besideDirectoryFive(path);
                due(path + " fits with directory 2 at " + to, 2, x.move(2, to));
                due("its value", path, x.value(4 * to + path - 8));
            }
        }
        for (int path = 37; path <= 52; path++) {
            int p = path;
            for (int to : new int[] {6, 8, 21, 24}) {
                refused(path + " with directory 2 to " + to, () -> besideDirectoryFive(p), x -> x.move(2, to));
            }
            OverlayTree x = besideDirectoryFive(path);
            due(path + " fits with directory 2 at 4", 3, x.move(2, 4));
            due("its value", path, x.value(path + 32));
            x = besideDirectoryFive(path);
            int inner = (path - 1) / 4;
            due(path + " fits with its directory at 8", 2, x.move(inner, 8));
            due("its value", path, x.value(33 + (path - 37) % 4));
        }
        for (int path = 37; path <= 52; path++) {
            int p = path;
            int inner = (path - 1) / 4;
            refused(path + " with its directory to 22", () -> besideDirectoryFive(p), x -> x.move(inner, 22));
        }
        refused("a full directory a row down", BoundaryTest::fullBelowTwo, x -> x.move(2, 8));
        due("and where there is room", 21, fullBelowTwo().move(2, 3));
        OverlayTree y = fullBelowTwo();
        for (int path = 37; path <= 40; path++) {
            due("remove", 0, y.remove(path));
        }
        due("makeDir", 0, y.makeDir(5));
        due("an empty directory beside full ones to the last row", 1, y.move(9, 21));
        due("what is beside it stays", 4, y.entries(10));
        OverlayTree x = oneDirectory(2);
        due("makeDir", 0, x.makeDir(4));
        due("makeDir", 0, x.makeDir(20));
        due("an empty directory to the last path", 1, x.move(2, 84));
        due("sort(84)", DIRECTORY, x.sort(84));
        due("entries(84)", 0, x.entries(84));
        due("and away from it", 1, x.move(84, 1));
        due("a file to the last path", 0, x.make(2, 5));
        due("move", 1, x.move(2, 84));
        due("value(84)", 5, x.value(84));
        due("a file from the last path", 1, x.move(84, 3));
        due("value(3)", 5, x.value(3));
    }

    private static void moveOutOfRange() {
        says("move is refused with a path out of range");
        for (int path : NO_PATHS) {
            refused("from " + path, BoundaryTest::mountedTree, x -> x.move(path, 3));
            refused("to " + path, BoundaryTest::mountedTree, x -> x.move(6, path));
            refused("a directory to " + path, BoundaryTest::mountedTree, x -> x.move(2, path));
            refused("from and to " + path, BoundaryTest::mountedTree, x -> x.move(path, path));
        }
        for (int path = 85; path <= 88; path++) {
            int p = path;
            refused("to " + path + " below a directory", () -> oneDirectory(21), x -> x.move(5, p));
        }
    }

    private static void moveAnswersHowMany() {
        says("move answers how many paths other than nothing have moved");
        OverlayTree x = fullTree();
        for (int path = 69; path <= LAST; path++) {
            due("remove", 0, x.remove(path));
        }
        for (int path = 17; path <= 20; path++) {
            due("remove", 0, x.remove(path));
        }
        due("remove", 0, x.remove(4));
        due("a full directory", 21, x.move(3, 4));
        due("a full directory of the second row", 5, x.move(17, 3));
        due("a file", 1, x.move(84, 17));
        due("total", 63, x.total());
        due("nothing is left behind", 0, x.sort(84));
        due("value(13)", 53, x.value(13));
        due("value(16)", 56, x.value(16));
        due("value(17)", 68, x.value(17));
        due("value(83)", 67, x.value(83));
        due("an empty directory", 1, oneDirectory(1).move(1, 2));
    }

    // ---- Promise 9: press

    private static void press() {
        says("press is refused if not mounted");
        refused("a new object", OverlayTree::new, OverlayTree::press);
        refused("filled", BoundaryTest::filled, OverlayTree::press);
        refused("full", BoundaryTest::directoriesInLowest, OverlayTree::press);

        says("press changes no answer of any other call");
        List<Supplier<OverlayTree>> scenes = List.of(BoundaryTest::emptyMounted, BoundaryTest::mountedTree,
            BoundaryTest::changedTree, BoundaryTest::removedDirectory, BoundaryTest::movedDirectory,
            BoundaryTest::fullTree, BoundaryTest::emptiedTree);
        for (Supplier<OverlayTree> scene : scenes) {
            for (Function<OverlayTree, int[]> probe : PROBES) {
                OverlayTree x = scene.get();
                due("press", 0, x.press());
                same("pressed once", probe.apply(scene.get()), probe.apply(x));
                x = scene.get();
                for (int count = 0; count < 40; count++) {
                    due("press", 0, x.press());
                }
                same("pressed again and again", probe.apply(scene.get()), probe.apply(x));
            }
        }
        OverlayTree x = emptyMounted();
        for (int call = 2; call <= 511; call++) {
            due("press, call " + call, 0, x.press());
        }
        due("make after as many as can be", 0, x.make(1, 1));
    }

    // ---- Promise 10: sort

    private static void sort() {
        says("sort answers 0 if nothing is mounted");
        for (int path = 0; path <= LAST; path++) {
            due("of a new object", 0, new OverlayTree().sort(path));
            due("of filled layers", 0, filled().sort(path));
            due("of a full layer", 0, directoriesInLowest().sort(path));
        }
        says("sort answers 0 if it is nothing");
        due("never filled", 0, mountedTree().sort(3));
        due("a hole", 0, mountedTree().sort(5));
        due("hidden by a closed directory", 0, mountedTree().sort(7));
        due("the last path", 0, mountedTree().sort(84));
        due("removed", 0, changedTree().sort(6));
        due("moved away", 0, changedTree().sort(9));
        says("sort answers FILE or DIRECTORY, as the path is in the tree");
        due("the root", DIRECTORY, mountedTree().sort(0));
        due("a closed directory", DIRECTORY, mountedTree().sort(1));
        due("a directory", DIRECTORY, mountedTree().sort(2));
        due("a file", FILE, mountedTree().sort(6));
        due("the last path", FILE, fullTree().sort(84));
        says("sort answers -1 if path is not from 0 to 84");
        for (int path : NO_PATHS) {
            due("path " + path, -1, mountedTree().sort(path));
            due("path " + path + " of a full tree", -1, fullTree().sort(path));
            due("path " + path + " before mounting", -1, filled().sort(path));
            due("path " + path + " of a new object", -1, new OverlayTree().sort(path));
        }
    }

    // ---- Promise 11: value

    private static void value() {
        says("value answers 0 if the path is no file of the tree");
        for (int path = 0; path <= LAST; path++) {
            due("path " + path + " before mounting", 0, filled().value(path));
        }
        due("the root", 0, mountedTree().value(0));
        due("a directory filled in with a value", 0, mountedTree().value(2));
        due("a closed directory filled in with a value", 0, mountedTree().value(1));
        due("a hole filled in with a value, over a file", 0, mountedTree().value(5));
        due("a file hidden by a closed directory", 0, mountedTree().value(7));
        due("nothing", 0, mountedTree().value(3));
        due("a removed file", 0, changedTree().value(6));
        due("a file moved away", 0, changedTree().value(9));
        OverlayTree x = changedTree();
        due("makeDir", 0, x.makeDir(6));
        due("a directory where a file was", 0, x.value(6));
        due("makeDir", 0, x.makeDir(9));
        due("a directory where a file was moved away", 0, x.value(9));
        for (int path : NO_PATHS) {
            due("path " + path, 0, fullTree().value(path));
            due("path " + path + " before mounting", 0, filled().value(path));
        }
    }

    // ---- Promise 12: entries

    private static void entries() {
        says("entries answers -1 if it is no directory of the tree");
        for (int path = 0; path <= LAST; path++) {
            due("path " + path + " of a new object, no tree yet", -1, new OverlayTree().entries(path));
            due("path " + path + " of filled layers, no tree yet", -1, filled().entries(path));
            due("path " + path + " of a full layer, no tree yet", -1, directoriesInLowest().entries(path));
        }
        due("a file", -1, mountedTree().entries(6));
        due("nothing", -1, mountedTree().entries(3));
        due("a hole", -1, mountedTree().entries(5));
        due("a removed directory", -1, removedDirectory().entries(4));
        due("a directory moved away", -1, movedDirectory().entries(2));
        for (int path : NO_PATHS) {
            due("path " + path, -1, mountedTree().entries(path));
            due("path " + path + " of a full tree", -1, fullTree().entries(path));
        }

        says("entries answers how many paths right below the path are not nothing");
        due("none below the root", 0, emptyMounted().entries(0));
        due("four below the root", 4, fullTree().entries(0));
        due("below a closed directory", 1, mountedTree().entries(1));
        for (int path = 1; path <= 20; path++) {
            OverlayTree x = oneDirectory(path);
            due("none below " + path, 0, x.entries(path));
            for (int count = 1; count <= 4; count++) {
                due("make", 0, x.make(4 * path + count, 1));
                due("first " + count + " below " + path, count, x.entries(path));
            }
            for (int count = 1; count <= 4; count++) {
                due("remove", 0, x.remove(4 * path + count));
                due("last " + (4 - count) + " below " + path, 4 - count, x.entries(path));
            }
        }
        OverlayTree x = oneFile(84);
        due("what is two steps below does not count", 1, x.entries(4));
        due("nor three steps", 1, x.entries(0));
    }

    // ---- Promise 13: total

    private static void total() {
        says("total: no tree, no paths");
        due("a new object", 0, new OverlayTree().total());
        due("filled layers", 0, filled().total());
        due("full layers", 0, fullLayers().total());
        says("total counts files and directories, without the root");
        due("an empty tree", 0, emptyMounted().total());
        due("a full tree", 84, fullTree().total());
        due("a full tree of directories", 84, directoryTree().total());
        OverlayTree x = fullTree();
        for (int path = LAST; path >= 1; path--) {
            due("remove(" + path + ")", 0, x.remove(path));
            due("total without " + path, path - 1, x.total());
        }
        for (int path = 1; path <= LAST; path++) {
            due("makeDir(" + path + ")", 0, x.makeDir(path));
            due("total with " + path, path, x.total());
        }
    }

    // ---- scenes

    private static OverlayTree filled() {
        OverlayTree x = new OverlayTree();
        due("scene", 0, x.fill(0, 1, DIRECTORY, 1));
        due("scene", 0, x.fill(0, 5, FILE, 55));
        due("scene", 0, x.fill(0, 7, FILE, 77));
        due("scene", 0, x.fill(1, 1, CLOSED, 1));
        due("scene", 0, x.fill(1, 5, HOLE, 5));
        due("scene", 0, x.fill(1, 6, FILE, 66));
        due("scene", 0, x.fill(2, 2, DIRECTORY, 2));
        due("scene", 0, x.fill(2, 9, FILE, 99));
        return x;
    }

    /** The directory 1 with the file 6, and the directory 2 with the file 9. */
    private static OverlayTree mountedTree() {
        OverlayTree x = filled();
        due("scene", 4, x.mount());
        return x;
    }

    private static OverlayTree changedTree() {
        OverlayTree x = mountedTree();
        due("scene", 0, x.remove(6));
        due("scene", 0, x.make(3, 33));
        due("scene", 0, x.makeDir(5));
        due("scene", 99, x.write(9, 98));
        due("scene", 1, x.move(9, 21));
        return x;
    }

    private static OverlayTree pressedTree() {
        OverlayTree x = changedTree();
        due("scene", 0, x.press());
        return x;
    }

    private static OverlayTree emptyMounted() {
        OverlayTree x = new OverlayTree();
        due("scene", 0, x.mount());
        return x;
    }

    /** A tree whose layers hold things, but that has nothing left. */
    private static OverlayTree emptiedTree() {
        OverlayTree x = chainInLowest();
        due("scene", 3, x.mount());
        due("scene", 0, x.remove(21));
        due("scene", 0, x.remove(5));
        due("scene", 0, x.remove(1));
        return x;
    }

    /** The file 1, and a directory 4 that has come and gone. */
    private static OverlayTree removedDirectory() {
        OverlayTree x = emptyMounted();
        due("scene", 0, x.make(1, 11));
        due("scene", 0, x.makeDir(4));
        due("scene", 0, x.remove(4));
        return x;
    }

    /** The file 1, and the empty directory 3 that was at 2. */
    private static OverlayTree movedDirectory() {
        OverlayTree x = emptyMounted();
        due("scene", 0, x.make(1, 11));
        due("scene", 0, x.makeDir(2));
        due("scene", 1, x.move(2, 3));
        return x;
    }

    /** Not mounted: one thing at path 2 in one layer. */
    private static OverlayTree holding(int layer, int sort) {
        OverlayTree x = new OverlayTree();
        due("scene", 0, x.fill(layer, 2, sort, 22));
        return x;
    }

    /** Not mounted: the directory 1 with the directory 5 with the file 21. */
    private static OverlayTree chainInLowest() {
        OverlayTree x = new OverlayTree();
        due("scene", 0, x.fill(0, 1, DIRECTORY, 0));
        due("scene", 0, x.fill(0, 5, DIRECTORY, 0));
        due("scene", 0, x.fill(0, 21, FILE, 21));
        return x;
    }

    private static OverlayTree directoriesInLowest() {
        OverlayTree x = new OverlayTree();
        for (int path = 1; path <= LAST; path++) {
            due("scene", 0, x.fill(0, path, DIRECTORY, 0));
        }
        return x;
    }

    private static OverlayTree directoryTree() {
        OverlayTree x = directoriesInLowest();
        due("scene", 84, x.mount());
        return x;
    }

    /** Not mounted, 252 calls: files in the last row of each layer, directories above. */
    private static OverlayTree fullLayers() {
        OverlayTree x = new OverlayTree();
        for (int layer = 0; layer < 3; layer++) {
            for (int path = 1; path <= LAST; path++) {
                due("scene", 0, x.fill(layer, path, path < 21 ? DIRECTORY : FILE, 100 * layer + path));
            }
        }
        return x;
    }

    /** Files in the last row, with their own numbers as values, directories above. */
    private static OverlayTree fullTree() {
        OverlayTree x = new OverlayTree();
        for (int path = 1; path <= LAST; path++) {
            due("scene", 0, x.fill(0, path, path < 21 ? DIRECTORY : FILE, path));
        }
        due("scene", 84, x.mount());
        return x;
    }

    private static OverlayTree oneFile(int path) {
        OverlayTree x = emptyMounted();
        for (int above : wayTo((path - 1) / 4)) {
            due("scene", 0, x.makeDir(above));
        }
        due("scene", 0, x.make(path, path));
        return x;
    }

    private static OverlayTree oneDirectory(int path) {
        OverlayTree x = emptyMounted();
        for (int above : wayTo(path)) {
            due("scene", 0, x.makeDir(above));
        }
        return x;
    }

    /** The directory 1 with the empty directory 5, and the directory 2 with one file and what leads there. */
    private static OverlayTree besideDirectoryFive(int path) {
        OverlayTree x = oneFile(path);
        due("scene", 0, x.makeDir(1));
        due("scene", 0, x.makeDir(5));
        return x;
    }

    /** The directory 1, and every path under 2 and 2 itself as directories. */
    private static OverlayTree fullBelowTwo() {
        OverlayTree x = oneDirectory(2);
        for (int path = 9; path <= 12; path++) {
            due("scene", 0, x.makeDir(path));
        }
        for (int path = 37; path <= 52; path++) {
            due("scene", 0, x.makeDir(path));
        }
        due("scene", 0, x.makeDir(1));
        return x;
    }

    // ---- paths

    /** The path and all it is under, from above, without the root. */
    private static int[] wayTo(int path) {
        int steps = path == 0 ? 0 : path <= 4 ? 1 : path <= 20 ? 2 : 3;
        int[] way = new int[steps];
        int at = path;
        for (int place = steps - 1; place >= 0; place--) {
            way[place] = at;
            at = (at - 1) / 4;
        }
        return way;
    }

    /** Not itself on the way, but right below the root or a path of the way. */
    private static boolean isRightBelowWay(int[] way, int path) {
        boolean below = path >= 1 && path <= 4;
        for (int above : way) {
            if (above == path) {
                return false;
            }
            below = below || path >= 4 * above + 1 && path <= 4 * above + 4;
        }
        return below;
    }

    /** Near the range, beside powers of two, and such that 4 * p + 1 wraps around into the range. */
    private static int[] noPaths() {
        List<Integer> paths = new ArrayList<>(List.of(MIN, MIN + 1, MIN + 2, MAX - 1, MAX));
        for (int path = -90; path <= -1; path++) {
            paths.add(path);
        }
        for (int path = 85; path <= 345; path++) {
            paths.add(path);
        }
        for (int bit = 9; bit <= 30; bit++) {
            for (int place : new int[] {0, 1, 2, 5, 6, 9, 21}) {
                paths.add((1 << bit) + place);
                paths.add(place - (1 << bit));
            }
        }
        return toArray(paths);
    }

    /** Near the range, and such that layer * 85 wraps around to the first places of a layer. */
    private static int[] noLayers() {
        List<Integer> layers = new ArrayList<>(List.of(MIN, MIN + 1, -85, -3, -2, -1, 3, 4, 5, 84, 85, 256, MAX));
        int inverse = 1;
        while (inverse * 85 != 1) {
            inverse *= 2 - 85 * inverse;
        }
        for (int cell = 1; cell < 255; cell++) {
            if (cell % 85 != 0) {
                layers.add(inverse * cell);
            }
        }
        return toArray(layers);
    }

    private static int[] toArray(List<Integer> numbers) {
        int[] array = new int[numbers.size()];
        for (int place = 0; place < array.length; place++) {
            array[place] = numbers.get(place);
        }
        return array;
    }

    // ---- probes, each of less than 300 calls, so that an object stays within its 512 calls

    private static int[] readAll(OverlayTree x) {
        List<Integer> answers = new ArrayList<>(List.of(x.sort(0), x.entries(0), x.total(), x.mount(), x.total()));
        for (int path = 0; path <= LAST; path++) {
            answers.add(x.sort(path));
            answers.add(x.value(path));
            answers.add(x.entries(path));
        }
        return toArray(answers);
    }

    /** Shows what a layer holds, or that it can't be filled in any more. */
    private static int[] fillAll(OverlayTree x, int layer) {
        List<Integer> answers = new ArrayList<>();
        for (int path = 1; path <= LAST; path++) {
            answers.add(x.fill(layer, path, DIRECTORY, 0));
        }
        answers.add(x.mount());
        for (int path = 0; path <= LAST; path++) {
            answers.add(x.sort(path));
            answers.add(x.value(path));
        }
        return toArray(answers);
    }

    /** Shows whether the calls that change the tree still do what they should. */
    private static int[] tearDownAndBuild(OverlayTree x) {
        List<Integer> answers = new ArrayList<>(List.of(x.press(), x.mount()));
        for (int path = LAST; path >= 1; path--) {
            answers.add(x.write(path, 1000 + path));
            answers.add(x.remove(path));
        }
        answers.add(x.total());
        for (int path = 1; path <= LAST; path++) {
            answers.add(x.makeDir(path));
        }
        answers.add(x.move(84, 83));
        answers.add(x.remove(84));
        answers.add(x.move(80, 84));
        answers.add(x.press());
        for (int path = 0; path <= 20; path++) {
            answers.add(x.entries(path));
        }
        answers.add(x.total());
        return toArray(answers);
    }

    // ---- checks

    private static void refused(String what, Supplier<OverlayTree> scene, ToIntFunction<OverlayTree> call) {
        for (Function<OverlayTree, int[]> probe : PROBES) {
            OverlayTree x = scene.get();
            due(what, -1, call.applyAsInt(x));
            same(what, probe.apply(scene.get()), probe.apply(x));
        }
    }

    private static void says(String words) {
        sentence = words;
    }

    private static void same(String what, int[] want, int[] got) {
        if (!Arrays.equals(want, got)) {
            tell(what + ": something has changed");
        }
    }

    private static void due(String what, int want, int got) {
        if (got != want) {
            tell(what + ": answered " + got + ", due is " + want);
        }
    }

    private static void tell(String fault) {
        wrong++;
        if (wrong <= 200) {
            System.out.println(sentence + ": " + fault);
        }
    }
}
