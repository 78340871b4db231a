import java.lang.reflect.Constructor;
import java.lang.reflect.Field;
import java.lang.reflect.Method;
import java.lang.reflect.Modifier;
import java.util.Arrays;
import java.util.HashSet;
import java.util.Set;
import java.util.TreeSet;

/** The class has the document's face, whole, and no other member that can be seen. */
public final class BlockSealerFace {
    private static int wrong = 0;

    private static void hold(boolean held, String rule) {
        if (!held) {
            wrong++;
            System.out.println("broken: " + rule);
        }
    }

    private static final Set<String> FACE = new TreeSet<>(Set.of(
        "void key(int, int, int, int)", "void block(int, int, int, int)", "void mix(int, int, int, int)",
        "void encrypt()", "void decrypt()", "void next()", "int word(int)", "void absorb()", "void restart()",
        "int hash(int)", "int roundKey(int, int)"));

    private static String shape(Method m) {
        String parameters = String.join(", ", Arrays.stream(m.getParameterTypes()).map(Class::getName).toList());
        return m.getReturnType().getName() + " " + m.getName() + "(" + parameters + ")";
    }

    private static void methods() {
        Set<String> open = new TreeSet<>();
        Set<String> openNames = new HashSet<>();
        for (Method m : BlockSealer.class.getDeclaredMethods()) {
            if (!Modifier.isPrivate(m.getModifiers())) {
                open.add(shape(m));
                openNames.add(m.getName());
                hold(m.getModifiers() == Modifier.PUBLIC, m + " is public and nothing else");
            }
        }
        hold(open.equals(FACE), "the open methods are the document's, they are " + open);
        for (Method m : BlockSealer.class.getDeclaredMethods()) {
            if (Modifier.isPrivate(m.getModifiers())) {
                hold(!openNames.contains(m.getName()), "no private method bears the public name " + m.getName());
                hold(!m.getReturnType().isArray(), m.getName() + " answers no array");
            }
            hold(m.getParameterCount() <= 7, m.getName() + " takes at most seven parameters");
        }
    }

    private static void fields() {
        for (Field f : BlockSealer.class.getDeclaredFields()) {
            hold(Modifier.isPrivate(f.getModifiers()), "the field " + f.getName() + " is private");
            Class<?> type = f.getType();
            if (Modifier.isStatic(f.getModifiers())) {
                hold(Modifier.isFinal(f.getModifiers()) && (type == int.class || type == long.class),
                    "the static field " + f.getName() + " is a constant int or long");
            } else {
                hold((type.isArray() ? type.getComponentType() : type).isPrimitive(),
                    "the field " + f.getName() + " is a number or an array of numbers");
            }
        }
    }

    public static void main(String[] args) {
        Class<?> c = BlockSealer.class;
        hold(c.getModifiers() == (Modifier.PUBLIC | Modifier.FINAL), "the class is public and final");
        hold(c.getPackageName().isEmpty(), "the class has no package");
        hold(c.getSuperclass() == Object.class && c.getInterfaces().length == 0, "the class extends nothing");
        hold(c.getDeclaredClasses().length == 0, "no nested class");
        Constructor<?>[] made = c.getDeclaredConstructors();
        hold(made.length == 1 && made[0].getModifiers() == Modifier.PUBLIC && made[0].getParameterCount() == 0,
            "one public constructor without parameters");
        methods();
        fields();
        System.out.println(wrong == 0 ? "the face is as due" : wrong + " rules are broken");
        if (wrong != 0) {
            System.exit(1);
        }
    }
}
