import java.lang.reflect.Constructor;
import java.lang.reflect.Field;
import java.lang.reflect.Method;
import java.lang.reflect.Modifier;
import java.util.Arrays;
import java.util.Set;
import java.util.TreeSet;

/** The class shows the document's face and nothing beside it, and holds only what LANGUAGE.md lets it hold. */
public final class FaceTest {
    private static int wrong = 0;

    public static void main(String[] args) {
        same("modifiers of the class", "public final", Modifier.toString(OverlayTree.class.getModifiers()));
        same("superclass", Object.class, OverlayTree.class.getSuperclass());
        same("interfaces", 0, OverlayTree.class.getInterfaces().length);
        same("nested classes", 0, OverlayTree.class.getDeclaredClasses().length);
        same("package", "", OverlayTree.class.getPackageName());
        same("constants", setOf("public static final int CLOSED", "public static final int DIRECTORY",
            "public static final int FILE", "public static final int HOLE"), shownFields());
        same("constructors", setOf("public OverlayTree()"), shownConstructors());
        same("methods", setOf(
            "public int entries(int)", "public int fill(int,int,int,int)", "public int make(int,int)",
            "public int makeDir(int)", "public int mount()", "public int move(int,int)", "public int press()",
            "public int remove(int)", "public int sort(int)", "public int total()", "public int value(int)",
            "public int write(int,int)"), shownMethods());
        same("FILE", 1, OverlayTree.FILE);
        same("DIRECTORY", 2, OverlayTree.DIRECTORY);
        same("CLOSED", 3, OverlayTree.CLOSED);
        same("HOLE", 4, OverlayTree.HOLE);
        hiddenMembers();
        System.out.println(wrong == 0 ? "all answers are as due" : wrong + " answers are not as due");
        if (wrong != 0) {
            System.exit(1);
        }
    }

    private static void hiddenMembers() {
        Set<String> publicNames = new TreeSet<>();
        for (Method method : OverlayTree.class.getMethods()) {
            if (method.getDeclaringClass() == OverlayTree.class) {
                publicNames.add(method.getName());
            }
        }
        for (Method method : OverlayTree.class.getDeclaredMethods()) {
            if (Modifier.isPrivate(method.getModifiers())) {
                same("private twin of " + method.getName(), false, publicNames.contains(method.getName()));
            }
        }
        for (Field field : OverlayTree.class.getDeclaredFields()) {
            Class<?> type = field.getType();
            Class<?> base = type.isArray() ? type.getComponentType() : type;
            boolean number = base.isPrimitive() && base != float.class && base != double.class;
            same("type of the field " + field.getName() + " is allowed", true, number);
            if (Modifier.isStatic(field.getModifiers())) {
                same("static field " + field.getName() + " is a constant", true,
                    Modifier.isFinal(field.getModifiers()) && (type == int.class || type == long.class));
            }
        }
    }

    private static Set<String> shownFields() {
        Set<String> shown = new TreeSet<>();
        for (Field field : OverlayTree.class.getDeclaredFields()) {
            if (!Modifier.isPrivate(field.getModifiers())) {
                shown.add(Modifier.toString(field.getModifiers()) + " " + field.getType() + " " + field.getName());
            }
        }
        return shown;
    }

    private static Set<String> shownConstructors() {
        Set<String> shown = new TreeSet<>();
        for (Constructor<?> constructor : OverlayTree.class.getDeclaredConstructors()) {
            shown.add(constructor.toGenericString());
        }
        return shown;
    }

    private static Set<String> shownMethods() {
        Set<String> shown = new TreeSet<>();
        for (Method method : OverlayTree.class.getDeclaredMethods()) {
            if (!Modifier.isPrivate(method.getModifiers())) {
                shown.add(method.toGenericString().replace("OverlayTree.", ""));
            }
        }
        return shown;
    }

    private static Set<String> setOf(String... texts) {
        return new TreeSet<>(Arrays.asList(texts));
    }

    private static void same(String what, Object want, Object got) {
        if (!want.equals(got)) {
            wrong++;
            System.out.println(what + ": " + got + ", due is " + want);
        }
    }
}
