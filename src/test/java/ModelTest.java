import java.util.ArrayList;
import java.util.HashMap;
import java.util.List;
import java.util.Map;

/**
 * Long runs of calls beside a model that shares nothing with the class: its paths are texts of steps, and it
 * keeps every layer, records each change in the uppermost one, and puts a new one on top at each press.
 */
public final class ModelTest {
    private static final int RUNS = 4000;
    private static final int CALLS = 512;
    private static final int CALLS_TO_READ_ALL = 3 * 85;
    private static final int SCENES = 4;
    private static final String[] NAMES = names();
    private static final Map<String, Integer> NUMBERS = numbers();

    private static int wrong = 0;
    private static long state = 1;

    public static void main(String[] args) {
        for (int scene = 0; scene < SCENES && wrong < 20; scene++) {
            everyFill(scene);
            everyChange(scene);
            everyMove(scene);
        }
        int[] accepted = new int[12];
        for (int run = 0; run < RUNS && wrong < 20; run++) {
            state = 1000003L * run + 17;
            oneRun(run, accepted);
        }
        for (int call = 0; call < accepted.length; call++) {
            if (accepted[call] < 1000 && wrong == 0) {
                wrong++;
                System.out.println("call " + call + " was accepted only " + accepted[call] + " times");
            }
        }
        System.out.println(wrong == 0 ? "all answers are as due" : wrong + " answers are not as due");
        if (wrong != 0) {
            System.exit(1);
        }
    }

    // ---- each call with every path in and around the range, on the same few scenes

    private static void everyFill(int scene) {
        for (int layer = -1; layer <= 3; layer++) {
            for (int path = -1; path <= 86; path++) {
                for (int sort = 0; sort <= 5; sort++) {
                    oneCall(scene, false, 0, layer, path, sort);
                }
            }
        }
        oneCall(scene, false, 7, 0, 0, 0);
    }

    private static void everyChange(int scene) {
        for (int path = -1; path <= 86; path++) {
            for (int call = 2; call <= 5; call++) {
                oneCall(scene, true, call, path, 7, 0);
                oneCall(scene, false, call, path, 7, 0);
            }
        }
        oneCall(scene, true, 1, 0, 0, 0);
        oneCall(scene, true, 7, 0, 0, 0);
    }

    private static void everyMove(int scene) {
        for (int from = -1; from <= 86; from++) {
            for (int to = -1; to <= 86; to++) {
                oneCall(scene, true, 6, from, to, 0);
            }
        }
    }

    /** The call on a new object, then mounting if that has not been done, and then all that can be read. */
    private static void oneCall(int scene, boolean mounted, int call, int a, int b, int c) {
        OverlayTree x = new OverlayTree();
        Model model = new Model();
        fillScene(scene, x, model);
        String what = "scene " + scene + ", call " + call + " (" + a + ", " + b + ", " + c + ")";
        if (mounted) {
            compare(what, x, model, 1, 0, 0, 0, 0);
        }
        compare(what, x, model, call, a, b, c, 7);
        compare(what, x, model, 1, 0, 0, 0, 0);
        compare(what, x, model, 11, 0, 0, 0, 0);
        compareAll(what, x, model);
    }

    /** Some paths under 1, 2 and 3, with directories on the way to each; the first scene stays empty. */
    private static void fillScene(int scene, OverlayTree x, Model model) {
        state = 7919L * scene + 6;
        for (int count = 0; count < 7 * scene; count++) {
            int layer = next(3);
            String name = NAMES[5 + next(12) + (next(3) == 0 ? 0 : 16 + next(32))];
            for (int steps = 1; steps < name.length(); steps++) {
                int above = NUMBERS.get(name.substring(0, steps));
                int sort = next(8) == 0 ? OverlayTree.CLOSED : OverlayTree.DIRECTORY;
                compare("scene " + scene, x, model, 0, layer, above, sort, count);
            }
            int sort = 1 + next(next(3) == 0 ? 4 : 2);
            compare("scene " + scene, x, model, 0, layer, NUMBERS.get(name), sort, count);
        }
    }

    // ---- long runs

    private static void oneRun(int run, int[] accepted) {
        OverlayTree x = new OverlayTree();
        Model model = new Model();
        List<String> told = new ArrayList<>();
        int fills = 10 + next(90);
        boolean readAll = run % 4 != 0;
        int calls = readAll ? CALLS - CALLS_TO_READ_ALL : CALLS;
        for (int count = 0; count < calls; count++) {
            int call = count < fills ? 0 : count == fills ? 1 : next(12);
            if (count < fills && next(40) == 0) {
                call = 2 + next(10);
            }
            int a = call == 0 ? next(20) == 0 ? anyPath() : next(3) : anyPath();
            int b = call == 0 || call == 6 ? anyPath() : anyValue();
            int c = next(20) == 0 ? anyPath() : 1 + next(next(2) == 0 ? 4 : 3);
            int d = anyValue();
            int got = answer(x, call, a, b, c, d);
            int want = model.answer(call, a, b, c, d);
            told.add("call " + call + " (" + a + ", " + b + ", " + c + ", " + d + ") answered " + got);
            if (want != -1) {
                accepted[call]++;
            }
            if (got != want) {
                wrong++;
                System.out.println("run " + run + ": due is " + want + " at the end of " + told);
                return;
            }
        }
        if (readAll) {
            compareAll("end of run " + run, x, model);
        }
    }

    private static void compareAll(String what, OverlayTree x, Model model) {
        for (int path = 0; path < 85; path++) {
            for (int call = 8; call <= 10; call++) {
                compare(what, x, model, call, path, 0, 0, 0);
            }
        }
    }

    private static void compare(String what, OverlayTree x, Model model, int call, int a, int b, int c, int d) {
        int got = answer(x, call, a, b, c, d);
        int want = model.answer(call, a, b, c, d);
        if (got != want) {
            wrong++;
            if (wrong <= 100) {
                System.out.println(what + ": call " + call + " (" + a + ", " + b + ", " + c + ", " + d
                    + ") answered " + got + ", due is " + want);
            }
        }
    }

    private static int answer(OverlayTree x, int call, int a, int b, int c, int d) {
        switch (call) {
            case 0: return x.fill(a, b, c, d);
            case 1: return x.mount();
            case 2: return x.make(a, b);
            case 3: return x.makeDir(a);
            case 4: return x.write(a, b);
            case 5: return x.remove(a);
            case 6: return x.move(a, b);
            case 7: return x.press();
            case 8: return x.sort(a);
            case 9: return x.value(a);
            case 10: return x.entries(a);
            default: return x.total();
        }
    }

    // ---- the inputs: a fixed sequence of numbers, the same at every run of the test

    private static int next(int bound) {
        state = state * 6364136223846793005L + 1442695040888963407L;
        return (int) ((state >>> 33) % bound);
    }

    /** Mostly paths below 1 and 2, so that the calls of a run meet one another. */
    private static int anyPath() {
        int kind = next(40);
        if (kind == 0) {
            return new int[] {-1, 0, 85, 86, Integer.MIN_VALUE, Integer.MAX_VALUE}[next(6)];
        }
        if (kind < 8) {
            return next(85);
        }
        int path = 1 + next(2);
        for (int depth = next(3); depth > 0; depth--) {
            path = 4 * path + 1 + next(3);
        }
        return path;
    }

    private static int anyValue() {
        int kind = next(8);
        return kind == 0 ? Integer.MIN_VALUE : kind == 1 ? Integer.MAX_VALUE : next(100) - 2;
    }

    private static String[] names() {
        String[] names = new String[85];
        names[0] = "";
        int made = 1;
        for (int path = 0; made < 85; path++) {
            for (String step : new String[] {"a", "b", "c", "d"}) {
                names[made++] = names[path] + step;
            }
        }
        return names;
    }

    private static Map<String, Integer> numbers() {
        Map<String, Integer> numbers = new HashMap<>();
        for (int path = 0; path < 85; path++) {
            numbers.put(NAMES[path], path);
        }
        return numbers;
    }

    // ---- the model

    private static final class Thing {
        final int sort;
        final int value;

        Thing(int sort, int value) {
            this.sort = sort;
            this.value = value;
        }
    }

    private static final class Model {
        private final List<Map<String, Thing>> layers = new ArrayList<>();
        private boolean mounted = false;

        Model() {
            for (int layer = 0; layer < 3; layer++) {
                addLayer();
            }
        }

        private void addLayer() {
            Map<String, Thing> layer = new HashMap<>();
            layer.put("", new Thing(OverlayTree.DIRECTORY, 0));
            layers.add(layer);
        }

        int answer(int call, int a, int b, int c, int d) {
            switch (call) {
                case 0: return fill(a, b, c, d);
                case 1: return mount();
                case 2: return create(a, new Thing(OverlayTree.FILE, b));
                case 3: return create(a, new Thing(OverlayTree.CLOSED, 0));
                case 4: return write(a, b);
                case 5: return remove(a);
                case 6: return move(a, b);
                case 7: return press();
                case 8: return a < 0 || a > 84 ? -1 : sortOf(NAMES[a]);
                case 9: return a < 0 || a > 84 || sortOf(NAMES[a]) != 1 ? 0 : seen(NAMES[a]).value;
                case 10: return a < 0 || a > 84 || sortOf(NAMES[a]) != 2 ? -1 : under(NAMES[a], 1).size();
                default: return mounted ? under("", 3).size() : 0;
            }
        }

        private int fill(int layer, int path, int sort, int value) {
            if (mounted || layer < 0 || layer > 2 || path < 1 || path > 84 || sort < 1 || sort > 4) {
                return -1;
            }
            Map<String, Thing> things = layers.get(layer);
            String name = NAMES[path];
            Thing parent = things.get(parent(name));
            if (things.containsKey(name) || parent == null || parent.sort == 1 || parent.sort == 4) {
                return -1;
            }
            things.put(name, new Thing(sort, value));
            return 0;
        }

        private int mount() {
            if (mounted) {
                return -1;
            }
            mounted = true;
            addLayer();
            return under("", 3).size();
        }

        private int create(int path, Thing thing) {
            if (!mounted || path < 1 || path > 84 || seen(NAMES[path]) != null
                || sortOf(parent(NAMES[path])) != 2) {
                return -1;
            }
            record(NAMES[path], thing);
            return 0;
        }

        private int write(int path, int value) {
            if (!mounted || path < 0 || path > 84 || sortOf(NAMES[path]) != 1) {
                return -1;
            }
            int before = seen(NAMES[path]).value;
            record(NAMES[path], new Thing(OverlayTree.FILE, value));
            return before;
        }

        private int remove(int path) {
            if (!mounted || path < 1 || path > 84 || seen(NAMES[path]) == null
                || !under(NAMES[path], 3).isEmpty()) {
                return -1;
            }
            record(NAMES[path], new Thing(OverlayTree.HOLE, 0));
            return 0;
        }

        private int move(int from, int to) {
            if (!mounted || from < 1 || from > 84 || to < 1 || to > 84) {
                return -1;
            }
            String source = NAMES[from];
            String target = NAMES[to];
            if (seen(source) == null || seen(target) != null || sortOf(parent(target)) != 2
                || target.startsWith(source)) {
                return -1;
            }
            List<String> names = new ArrayList<>();
            names.add(source);
            names.addAll(under(source, 3));
            List<Thing> things = new ArrayList<>();
            for (String name : names) {
                if (!NUMBERS.containsKey(target + name.substring(source.length()))) {
                    return -1;
                }
                Thing thing = seen(name);
                things.add(thing.sort == 1 ? thing : new Thing(OverlayTree.CLOSED, 0));
            }
            for (int place = names.size() - 1; place >= 0; place--) {
                record(names.get(place), new Thing(OverlayTree.HOLE, 0));
            }
            for (int place = 0; place < names.size(); place++) {
                record(target + names.get(place).substring(source.length()), things.get(place));
            }
            return names.size();
        }

        private int press() {
            if (!mounted) {
                return -1;
            }
            addLayer();
            return 0;
        }

        /** Writes into the uppermost layer, which also gets the directories that lead there. */
        private void record(String name, Thing thing) {
            Map<String, Thing> top = layers.get(layers.size() - 1);
            for (int steps = 1; steps < name.length(); steps++) {
                top.putIfAbsent(name.substring(0, steps), new Thing(OverlayTree.DIRECTORY, 0));
            }
            top.put(name, thing);
            if (thing.sort == OverlayTree.HOLE) {
                top.keySet().removeIf(other -> other.startsWith(name) && !other.equals(name));
            }
        }

        private int sortOf(String name) {
            Thing thing = mounted ? seen(name) : null;
            return thing == null ? 0 : thing.sort;
        }

        /** The document's way of finding what a path is in the tree, over as many layers as there are. */
        private Thing seen(String name) {
            if (name.isEmpty()) {
                return new Thing(OverlayTree.DIRECTORY, 0);
            }
            Thing parent = seen(parent(name));
            if (parent == null || parent.sort != OverlayTree.DIRECTORY) {
                return null;
            }
            for (int layer = layers.size() - 1; layer >= 0; layer--) {
                Thing thing = layers.get(layer).get(name);
                if (thing != null && thing.sort == OverlayTree.FILE) {
                    return thing;
                }
                if (thing != null) {
                    return thing.sort == OverlayTree.HOLE ? null : new Thing(OverlayTree.DIRECTORY, 0);
                }
                for (int steps = 1; steps < name.length(); steps++) {
                    Thing above = layers.get(layer).get(name.substring(0, steps));
                    if (above != null && above.sort != OverlayTree.DIRECTORY) {
                        return null;
                    }
                }
            }
            return null;
        }

        /** The names of all that is not nothing from one to that many steps under a path, the upper ones first. */
        private List<String> under(String name, int steps) {
            List<String> found = new ArrayList<>();
            for (String other : NAMES) {
                int down = other.length() - name.length();
                if (down > 0 && down <= steps && other.startsWith(name) && seen(other) != null) {
                    found.add(other);
                }
            }
            return found;
        }

        private static String parent(String name) {
            return name.substring(0, name.length() - 1);
        }
    }
}
