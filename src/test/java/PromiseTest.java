import java.util.Arrays;

/** Each promise by itself: what it does when nothing is refused. BoundaryTest has the refusals. */
public final class PromiseTest {
    private static final int FILE = OverlayTree.FILE;
    private static final int DIRECTORY = OverlayTree.DIRECTORY;
    private static final int CLOSED = OverlayTree.CLOSED;
    private static final int HOLE = OverlayTree.HOLE;
    private static final int MIN = Integer.MIN_VALUE;
    private static final int MAX = Integer.MAX_VALUE;

    private static String promise = "";
    private static int wrong = 0;

    public static void main(String[] args) {
        newObject();
        fill();
        mount();
        mountOverLayers();
        mountUnderCovers();
        make();
        makeDir();
        write();
        remove();
        move();
        moveRows();
        press();
        sort();
        value();
        entries();
        total();
        System.out.println(wrong == 0 ? "all answers are as due" : wrong + " answers are not as due");
        if (wrong != 0) {
            System.exit(1);
        }
    }

    // ---- the promises

    private static void newObject() {
        promise = "promise 1, a new object";
        OverlayTree x = new OverlayTree();
        for (int path = 0; path < 85; path++) {
            due("sort(" + path + ")", 0, x.sort(path));
            due("value(" + path + ")", 0, x.value(path));
            due("entries(" + path + ")", -1, x.entries(path));
        }
        due("total", 0, x.total());
        due("mount", 0, x.mount());
        for (int path = 1; path < 85; path++) {
            due("sort(" + path + ") once mounted", 0, x.sort(path));
        }
        due("sort(0) once mounted", DIRECTORY, x.sort(0));
        due("entries(0) once mounted", 0, x.entries(0));
        OverlayTree y = new OverlayTree();
        for (int layer = 0; layer < 3; layer++) {
            for (int path = 1; path < 85; path++) {
                due("fill of an empty place", 0, y.fill(layer, path, DIRECTORY, 0));
            }
        }
        due("mount of full layers", 84, y.mount());
        due("another object is not touched", 0, x.total());
    }

    private static void fill() {
        promise = "promise 2, fill";
        OverlayTree x = new OverlayTree();
        due("a file", 0, x.fill(0, 1, FILE, 11));
        due("a directory", 0, x.fill(0, 2, DIRECTORY, 12));
        due("a closed directory", 0, x.fill(0, 3, CLOSED, 13));
        due("a hole", 0, x.fill(0, 4, HOLE, 14));
        due("below a directory", 0, x.fill(0, 9, FILE, MIN));
        due("below a closed directory", 0, x.fill(0, 13, CLOSED, 0));
        due("below a closed directory below a closed one", 0, x.fill(0, 53, FILE, MAX));
        due("the last path's parent's parent, another layer", 0, x.fill(2, 4, DIRECTORY, 0));
        due("the last path's parent", 0, x.fill(2, 20, DIRECTORY, 0));
        due("the last path", 0, x.fill(2, 84, FILE, -1));
        due("nothing is mounted by it", 0, x.sort(1));
        due("no value is seen yet", 0, x.value(1));
        due("nothing is counted yet", 0, x.total());
        due("mount", 9, x.mount());
        due("value(1)", 11, x.value(1));
        due("sort(2)", DIRECTORY, x.sort(2));
        due("value(2)", 0, x.value(2));
        due("sort(3)", DIRECTORY, x.sort(3));
        due("value(3)", 0, x.value(3));
        due("sort(4)", DIRECTORY, x.sort(4));
        due("value(9)", MIN, x.value(9));
        due("sort(13)", DIRECTORY, x.sort(13));
        due("value(53)", MAX, x.value(53));
        due("value(84)", -1, x.value(84));
    }

    private static void mount() {
        promise = "promise 3, mount";
        OverlayTree x = filled();
        due("the count", 4, x.mount());
        due("again", -1, x.mount());
        due("the root", DIRECTORY, x.sort(0));
        due("a closed directory over a directory", DIRECTORY, x.sort(1));
        due("a hole over a file", 0, x.sort(5));
        due("a file of the middle layer", 66, x.value(6));
        due("a file of the lowest layer, covered by the closed directory", 0, x.sort(7));
        due("a directory of the highest layer", DIRECTORY, x.sort(2));
        due("a file in it", 99, x.value(9));
        due("total", 4, x.total());
    }

    /** Every sort, and nothing, in each of the three layers at one path below the root. */
    private static void mountOverLayers() {
        promise = "promise 3, mount over three layers";
        for (int code = 0; code < 125; code++) {
            int[] sorts = {code % 5, code / 5 % 5, code / 25};
            OverlayTree x = new OverlayTree();
            int seen = 0;
            int seenValue = 0;
            for (int layer = 0; layer < 3; layer++) {
                if (sorts[layer] != 0) {
                    due("fill", 0, x.fill(layer, 3, sorts[layer], 70 + layer));
                    seen = sorts[layer] == FILE ? FILE : sorts[layer] == HOLE ? 0 : DIRECTORY;
                    seenValue = sorts[layer] == FILE ? 70 + layer : 0;
                }
            }
            String what = Arrays.toString(sorts);
            due("mount of " + what, seen == 0 ? 0 : 1, x.mount());
            due("sort of " + what, seen, x.sort(3));
            due("value of " + what, seenValue, x.value(3));
            due("entries of " + what, seen == DIRECTORY ? 0 : -1, x.entries(3));
        }
    }

    private static void mountUnderCovers() {
        promise = "promise 3, mount under covers";
        OverlayTree x = deepLowest();
        due("fill", 0, x.fill(1, 1, FILE, 5));
        due("fill", 0, x.fill(2, 1, DIRECTORY, 0));
        due("a file under the directory hides the lowest layer", 1, x.mount());
        due("sort(1)", DIRECTORY, x.sort(1));
        due("sort(5)", 0, x.sort(5));

        x = deepLowest();
        due("fill", 0, x.fill(1, 1, HOLE, 5));
        due("fill", 0, x.fill(2, 1, DIRECTORY, 0));
        due("so does a hole", 1, x.mount());
        due("sort(5)", 0, x.sort(5));

        x = deepLowest();
        due("fill", 0, x.fill(1, 1, CLOSED, 5));
        due("fill", 0, x.fill(2, 1, DIRECTORY, 0));
        due("and a closed directory", 1, x.mount());
        due("sort(5)", 0, x.sort(5));

        x = deepLowest();
        due("fill", 0, x.fill(1, 1, DIRECTORY, 5));
        due("fill", 0, x.fill(2, 1, DIRECTORY, 0));
        due("but no plain directory", 3, x.mount());
        due("value(21)", 21, x.value(21));

        x = deepLowest();
        due("fill", 0, x.fill(2, 1, CLOSED, 0));
        due("fill", 0, x.fill(2, 5, DIRECTORY, 0));
        due("a closed directory covers from two steps above", 2, x.mount());
        due("sort(5)", DIRECTORY, x.sort(5));
        due("sort(21)", 0, x.sort(21));

        x = deepLowest();
        due("fill", 0, x.fill(1, 1, FILE, 0));
        due("fill", 0, x.fill(2, 1, DIRECTORY, 0));
        due("fill", 0, x.fill(2, 5, DIRECTORY, 0));
        due("a file covers from two steps above", 2, x.mount());
        due("sort(21)", 0, x.sort(21));

        x = deepLowest();
        due("fill", 0, x.fill(1, 1, HOLE, 0));
        due("fill", 0, x.fill(2, 1, DIRECTORY, 0));
        due("fill", 0, x.fill(2, 5, DIRECTORY, 0));
        due("a hole covers from two steps above", 2, x.mount());
        due("sort(21)", 0, x.sort(21));

        x = deepLowest();
        due("fill", 0, x.fill(2, 1, CLOSED, 0));
        due("fill", 0, x.fill(1, 1, DIRECTORY, 0));
        due("fill", 0, x.fill(1, 5, DIRECTORY, 0));
        due("fill", 0, x.fill(1, 21, FILE, 3));
        due("a closed directory hides two layers", 1, x.mount());
        due("entries(1)", 0, x.entries(1));

        x = deepLowest();
        due("fill", 0, x.fill(0, 2, DIRECTORY, 0));
        due("fill", 0, x.fill(0, 9, FILE, 9));
        due("fill", 0, x.fill(2, 1, CLOSED, 0));
        due("a cover does not reach its neighbour", 3, x.mount());
        due("value(9)", 9, x.value(9));

        x = deepLowest();
        due("fill", 0, x.fill(2, 1, FILE, 4));
        due("nothing is under a file", 1, x.mount());
        due("value(1)", 4, x.value(1));
        due("sort(5)", 0, x.sort(5));
        due("sort(21)", 0, x.sort(21));
    }

    private static void make() {
        promise = "promise 4, make";
        OverlayTree x = mountedTree();
        due("below the root", 0, x.make(4, MIN));
        due("sort(4)", FILE, x.sort(4));
        due("value(4)", MIN, x.value(4));
        due("where a hole was", 0, x.make(5, 55));
        due("value(5)", 55, x.value(5));
        due("total", 6, x.total());
        due("makeDir", 0, x.makeDir(3));
        due("makeDir", 0, x.makeDir(16));
        due("the last path of its directory", 0, x.make(68, -1));
        due("value(68)", -1, x.value(68));
        due("total", 9, x.total());
    }

    private static void makeDir() {
        promise = "promise 5, makeDir";
        OverlayTree x = mountedTree();
        due("below the root", 0, x.makeDir(4));
        due("sort(4)", DIRECTORY, x.sort(4));
        due("value(4)", 0, x.value(4));
        due("entries(4)", 0, x.entries(4));
        due("below it", 0, x.makeDir(20));
        due("below that", 0, x.makeDir(84));
        due("sort(84)", DIRECTORY, x.sort(84));
        due("entries(84)", 0, x.entries(84));
        due("entries(20)", 1, x.entries(20));
        due("total", 7, x.total());
        x = deepLowest();
        due("mount", 3, x.mount());
        due("remove", 0, x.remove(21));
        due("remove", 0, x.remove(5));
        due("a directory made anew", 0, x.makeDir(5));
        due("has nothing in it", 0, x.entries(5));
        due("not even of the layers", 0, x.sort(21));
        due("remove", 0, x.remove(5));
        due("a file in the place", 0, x.make(5, 8));
        due("remove", 0, x.remove(5));
        due("and a directory again", 0, x.makeDir(5));
        due("has no value", 0, x.value(5));
    }

    private static void write() {
        promise = "promise 6, write";
        OverlayTree x = mountedTree();
        due("answers the value before", 66, x.write(6, -1));
        due("value(6)", -1, x.value(6));
        due("which may be -1", -1, x.write(6, MAX));
        due("and any other", MAX, x.write(6, 0));
        due("value(6)", 0, x.value(6));
        due("0 too", 0, x.write(6, MIN));
        due("value(6)", MIN, x.value(6));
        due("another file keeps its value", 99, x.value(9));
        due("total", 4, x.total());
        due("make", 0, x.make(3, 4));
        due("a file that was made", 4, x.write(3, 5));
        due("value(3)", 5, x.value(3));
    }

    private static void remove() {
        promise = "promise 7, remove";
        OverlayTree x = mountedTree();
        due("a file", 0, x.remove(9));
        due("sort(9)", 0, x.sort(9));
        due("value(9)", 0, x.value(9));
        due("entries(2)", 0, x.entries(2));
        due("an empty directory", 0, x.remove(2));
        due("sort(2)", 0, x.sort(2));
        due("entries(2)", -1, x.entries(2));
        due("total", 2, x.total());
        due("remove", 0, x.remove(6));
        due("a directory whose layers still hold something", 0, x.remove(1));
        due("total", 0, x.total());
        for (int last = 21; last <= 24; last++) {
            int path = last;
            OverlayTree z = oneDeepFile(path);
            due("remove of " + path, 0, z.remove(path));
            due("then of the directory", 0, z.remove(5));
            due("then of the one above", 0, z.remove(1));
        }
        x = new OverlayTree();
        due("mount", 0, x.mount());
        due("makeDir", 0, x.makeDir(4));
        due("makeDir", 0, x.makeDir(20));
        due("makeDir", 0, x.makeDir(84));
        due("a directory that no path is under", 0, x.remove(84));
    }

    private static void move() {
        promise = "promise 8, move";
        OverlayTree x = mountedTree();
        due("a file", 1, x.move(6, 4));
        due("value(4)", 66, x.value(4));
        due("sort(4)", FILE, x.sort(4));
        due("sort(6)", 0, x.sort(6));
        due("value(6)", 0, x.value(6));
        due("a directory with a file, a step down", 2, x.move(2, 5));
        due("sort(5)", DIRECTORY, x.sort(5));
        due("value(21)", 99, x.value(21));
        due("sort(2)", 0, x.sort(2));
        due("sort(9)", 0, x.sort(9));
        due("value(9)", 0, x.value(9));
        due("a step up", 2, x.move(5, 3));
        due("value(13)", 99, x.value(13));
        due("an empty directory", 1, x.move(1, 14));
        due("entries(14)", 0, x.entries(14));
        due("an empty directory back up", 1, x.move(14, 1));
        due("entries(1)", 0, x.entries(1));
        due("total", 4, x.total());
    }

    private static void moveRows() {
        promise = "promise 8, move of whole rows";
        // Every path under 1 is taken, with its own number as the value in the last row.
        OverlayTree x = new OverlayTree();
        due("mount", 0, x.mount());
        due("makeDir", 0, x.makeDir(1));
        for (int path = 5; path <= 8; path++) {
            due("makeDir", 0, x.makeDir(path));
        }
        for (int path = 21; path <= 36; path++) {
            due("make", 0, x.make(path, path));
        }
        due("all of it", 21, x.move(1, 4));
        for (int path = 17; path <= 20; path++) {
            due("entries(" + path + ")", 4, x.entries(path));
        }
        for (int path = 69; path <= 84; path++) {
            due("value(" + path + ")", path - 48, x.value(path));
        }
        for (int path = 21; path <= 36; path++) {
            due("sort(" + path + ")", 0, x.sort(path));
        }
        due("sort(5)", 0, x.sort(5));
        due("total", 21, x.total());
        due("entries(0)", 1, x.entries(0));
        due("one row up", 5, x.move(20, 2));
        for (int place = 0; place < 4; place++) {
            due("value(" + (9 + place) + ")", 33 + place, x.value(9 + place));
        }
        due("entries(4)", 3, x.entries(4));
        due("one row down, into its old place", 5, x.move(2, 20));
        due("value(84)", 36, x.value(84));
        due("a file from the last row to the first", 1, x.move(84, 1));
        due("value(1)", 36, x.value(1));
        due("and back", 1, x.move(1, 84));
        due("value(84)", 36, x.value(84));
        due("total", 21, x.total());
    }

    private static void press() {
        promise = "promise 9, press";
        OverlayTree x = changedTree();
        due("press", 0, x.press());
        due("press", 0, x.press());
        same("changes no answer", snapshot(changedTree()), snapshot(x));
        x = mountedTree();
        due("press with no changes", 0, x.press());
        same("changes no answer", snapshot(mountedTree()), snapshot(x));
        x = deepLowest();
        due("mount", 3, x.mount());
        due("remove", 0, x.remove(21));
        due("press", 0, x.press());
        due("remove", 0, x.remove(5));
        due("press", 0, x.press());
        due("a directory made over pressed removals", 0, x.makeDir(5));
        due("press", 0, x.press());
        due("is empty", 0, x.entries(5));
        due("make", 0, x.make(21, 1));
        due("press", 0, x.press());
        due("write after press", 1, x.write(21, 2));
        due("press", 0, x.press());
        due("value(21)", 2, x.value(21));
        due("move after press", 2, x.move(5, 2));
        due("press", 0, x.press());
        due("sort(5)", 0, x.sort(5));
        due("sort(21)", 0, x.sort(21));
        due("value(9)", 2, x.value(9));
        due("total", 3, x.total());
        x = emptyMounted();
        for (int count = 0; count < 500; count++) {
            due("press number " + count, 0, x.press());
        }
        due("make after many", 0, x.make(1, 1));
    }

    private static void sort() {
        promise = "promise 10, sort";
        OverlayTree x = filled();
        due("the root before mounting", 0, x.sort(0));
        due("a directory before mounting", 0, x.sort(1));
        due("out of range before mounting", -1, x.sort(85));
        due("below the range before mounting", -1, x.sort(-1));
        due("mount", 4, x.mount());
        due("the root", DIRECTORY, x.sort(0));
        due("a closed directory", DIRECTORY, x.sort(1));
        due("a directory", DIRECTORY, x.sort(2));
        due("a file", FILE, x.sort(6));
        due("a hole", 0, x.sort(5));
        due("nothing", 0, x.sort(3));
        due("the last path", 0, x.sort(84));
    }

    private static void value() {
        promise = "promise 11, value";
        OverlayTree x = filled();
        due("a file before mounting", 0, x.value(6));
        due("mount", 4, x.mount());
        due("a file", 66, x.value(6));
        due("another", 99, x.value(9));
        due("the root", 0, x.value(0));
        due("a directory filled in with a value", 0, x.value(2));
        due("a closed directory filled in with a value", 0, x.value(1));
        due("a hole filled in with a value", 0, x.value(5));
        due("nothing", 0, x.value(3));
        due("remove", 0, x.remove(6));
        due("a file that is gone", 0, x.value(6));
        due("makeDir", 0, x.makeDir(6));
        due("a directory in a file's place", 0, x.value(6));
    }

    private static void entries() {
        promise = "promise 12, entries";
        OverlayTree x = filled();
        due("the root before mounting", -1, x.entries(0));
        due("a directory before mounting", -1, x.entries(1));
        due("mount", 4, x.mount());
        due("the root", 2, x.entries(0));
        due("a closed directory", 1, x.entries(1));
        due("a directory", 1, x.entries(2));
        due("a file", -1, x.entries(6));
        due("nothing", -1, x.entries(3));
        due("a hole", -1, x.entries(5));
        for (int place = 0; place < 4; place++) {
            int path = 5 + place;
            if (path != 6) {
                due("makeDir(" + path + ")", 0, x.makeDir(path));
            }
        }
        due("full", 4, x.entries(1));
        due("makeDir", 0, x.makeDir(36));
        due("what is two steps below does not count", 4, x.entries(1));
        due("the last of four", 1, x.entries(8));
        due("the one before", 0, x.entries(7));
        due("in the last row", 0, x.entries(36));
        due("the root still", 2, x.entries(0));
        due("remove", 0, x.remove(6));
        due("one less", 3, x.entries(1));
    }

    private static void total() {
        promise = "promise 13, total";
        OverlayTree x = filled();
        due("before mounting", 0, x.total());
        due("mount", 4, x.mount());
        due("as mount answered", 4, x.total());
        due("make", 0, x.make(3, 0));
        due("one more", 5, x.total());
        due("makeDir", 0, x.makeDir(4));
        due("one more", 6, x.total());
        due("write", 66, x.write(6, 0));
        due("as many", 6, x.total());
        due("move", 2, x.move(2, 17));
        due("as many", 6, x.total());
        due("remove", 0, x.remove(69));
        due("one less", 5, x.total());
        due("refused", -1, x.remove(69));
        due("as many", 5, x.total());
        x = emptyMounted();
        for (int path = 1; path < 85; path++) {
            due("makeDir", 0, x.makeDir(path));
            due("total", path, x.total());
        }
    }

    // ---- scenes

    private static OverlayTree filled() {
        OverlayTree x = new OverlayTree();
        due("scene", 0, x.fill(0, 1, DIRECTORY, 1));
        due("scene", 0, x.fill(0, 5, FILE, 55));
        due("scene", 0, x.fill(0, 7, FILE, 77));
        due("scene", 0, x.fill(1, 1, CLOSED, 1));
        due("scene", 0, x.fill(1, 5, HOLE, 5));
        due("scene", 0, x.fill(1, 6, FILE, 66));
        due("scene", 0, x.fill(2, 2, DIRECTORY, 2));
        due("scene", 0, x.fill(2, 9, FILE, 99));
        return x;
    }

    private static OverlayTree mountedTree() {
        OverlayTree x = filled();
        due("scene", 4, x.mount());
        return x;
    }

    private static OverlayTree changedTree() {
        OverlayTree x = mountedTree();
        due("scene", 0, x.remove(6));
        due("scene", 0, x.make(3, 33));
        due("scene", 0, x.makeDir(5));
        due("scene", 99, x.write(9, 98));
        due("scene", 1, x.move(9, 21));
        return x;
    }

    private static OverlayTree emptyMounted() {
        OverlayTree x = new OverlayTree();
        due("scene", 0, x.mount());
        return x;
    }

    /** Not mounted: a chain down to a file in the lowest layer. */
    private static OverlayTree deepLowest() {
        OverlayTree x = new OverlayTree();
        due("scene", 0, x.fill(0, 1, DIRECTORY, 0));
        due("scene", 0, x.fill(0, 5, DIRECTORY, 0));
        due("scene", 0, x.fill(0, 21, FILE, 21));
        return x;
    }

    private static OverlayTree oneDeepFile(int path) {
        OverlayTree x = emptyMounted();
        due("scene", 0, x.makeDir(1));
        due("scene", 0, x.makeDir(5));
        due("scene", 0, x.make(path, path));
        return x;
    }

    // ---- checks

    /** Some 260 calls, so that an object with one snapshot stays within its 512 calls. */
    private static int[] snapshot(OverlayTree x) {
        int[] answers = new int[4 + 3 * 85];
        answers[0] = x.sort(0);
        answers[1] = x.total();
        answers[2] = x.mount();
        answers[3] = x.total();
        for (int path = 0; path < 85; path++) {
            answers[4 + 3 * path] = x.sort(path);
            answers[5 + 3 * path] = x.value(path);
            answers[6 + 3 * path] = x.entries(path);
        }
        return answers;
    }

    private static void same(String what, int[] want, int[] got) {
        if (!Arrays.equals(want, got)) {
            wrong++;
            System.out.println(promise + ": " + what + ": something has changed");
        }
    }

    private static void due(String what, int want, int got) {
        if (got != want) {
            wrong++;
            System.out.println(promise + ": " + what + ": answered " + got + ", due is " + want);
        }
    }
}
