import java.util.ArrayList;
import java.util.Arrays;
import java.util.List;

/**
 * Mounting, with every way in which three layers can hold a path right below the root, one right below that and one
 * right below that in turn: 29 ways for each layer. What is due is found by the document's words, step by step.
 */
public final class MountTest {
    private static final int FILE = OverlayTree.FILE;
    private static final int DIRECTORY = OverlayTree.DIRECTORY;
    private static final int CLOSED = OverlayTree.CLOSED;
    private static final int HOLE = OverlayTree.HOLE;

    private static final int[][] CHAINS = {{1, 5, 21}, {3, 14, 59}, {4, 20, 84}};
    private static final List<int[]> WAYS = ways();

    private static int wrong = 0;

    public static void main(String[] args) {
        for (int[] chain : CHAINS) {
            for (int[] lowest : WAYS) {
                for (int[] middle : WAYS) {
                    for (int[] highest : WAYS) {
                        check(chain, new int[][] {lowest, middle, highest});
                    }
                }
            }
        }
        System.out.println(wrong == 0 ? "all answers are as due" : wrong + " answers are not as due");
        if (wrong != 0) {
            System.exit(1);
        }
    }

    private static void check(int[] chain, int[][] layers) {
        OverlayTree x = new OverlayTree();
        String what = "layers " + Arrays.deepToString(layers) + " at " + Arrays.toString(chain) + ": ";
        for (int layer = 0; layer < 3; layer++) {
            for (int depth = 0; depth < 3; depth++) {
                if (layers[layer][depth] != 0) {
                    due(what + "fill", 0, x.fill(layer, chain[depth], layers[layer][depth], valueIn(layer, depth)));
                }
            }
        }
        int[] sorts = new int[3];
        int[] values = new int[3];
        int count = 0;
        for (int depth = 0; depth < 3; depth++) {
            if (depth == 0 || sorts[depth - 1] == DIRECTORY) {
                int layer = decidingLayer(layers, depth);
                int held = layer < 0 ? 0 : layers[layer][depth];
                sorts[depth] = held == FILE ? FILE : held == DIRECTORY || held == CLOSED ? DIRECTORY : 0;
                values[depth] = held == FILE ? valueIn(layer, depth) : 0;
            }
            count += sorts[depth] == 0 ? 0 : 1;
        }
        due(what + "mount", count, x.mount());
        due(what + "total", count, x.total());
        for (int depth = 0; depth < 3; depth++) {
            int below = depth < 2 && sorts[depth + 1] != 0 ? 1 : 0;
            due(what + "sort at depth " + depth, sorts[depth], x.sort(chain[depth]));
            due(what + "value at depth " + depth, values[depth], x.value(chain[depth]));
            due(what + "entries at depth " + depth, sorts[depth] == DIRECTORY ? below : -1, x.entries(chain[depth]));
        }
    }

    /** The layer that says what is at this depth, or -1 if all layers hold nothing there. */
    private static int decidingLayer(int[][] layers, int depth) {
        for (int layer = 2; layer >= 0; layer--) {
            if (layers[layer][depth] != 0) {
                return layer;
            }
            for (int above = 0; above < depth; above++) {
                int held = layers[layer][above];
                if (held == FILE || held == CLOSED || held == HOLE) {
                    return layer;
                }
            }
        }
        return -1;
    }

    private static int valueIn(int layer, int depth) {
        return 100 + 10 * layer + depth;
    }

    private static List<int[]> ways() {
        List<int[]> ways = new ArrayList<>();
        for (int upper = 0; upper <= HOLE; upper++) {
            for (int inner = 0; inner <= HOLE; inner++) {
                for (int last = 0; last <= HOLE; last++) {
                    if ((inner == 0 || canHold(upper)) && (last == 0 || canHold(inner))) {
                        ways.add(new int[] {upper, inner, last});
                    }
                }
            }
        }
        return ways;
    }

    private static boolean canHold(int sort) {
        return sort == DIRECTORY || sort == CLOSED;
    }

    private static void due(String what, int want, int got) {
        if (got != want) {
            wrong++;
            if (wrong <= 100) {
                System.out.println(what + ": answered " + got + ", due is " + want);
            }
        }
    }
}
