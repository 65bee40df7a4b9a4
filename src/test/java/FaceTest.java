import java.lang.reflect.Constructor;
import java.lang.reflect.Field;
import java.lang.reflect.Method;
import java.lang.reflect.Modifier;
import java.util.Arrays;
import java.util.TreeSet;

/** The class shows the document's face and nothing more. */
public final class FaceTest {
    private static int wrong = 0;

    private static void due(String what, Object got, Object want) {
        if (!got.equals(want)) {
            wrong++;
            System.out.println(what + " is " + got + ", due is " + want);
        }
    }

    private static boolean hidden(int modifiers) {
        return Modifier.isPrivate(modifiers);
    }

    public static void main(String[] args) throws Exception {
        Class<?> c = RuleNetwork.class;
        due("the class public and final", Modifier.isPublic(c.getModifiers()) && Modifier.isFinal(c.getModifiers()), true);
        due("NONE", RuleNetwork.NONE, -1);

        TreeSet<String> methods = new TreeSet<>();
        TreeSet<String> privates = new TreeSet<>();
        TreeSet<String> publics = new TreeSet<>();
        for (Method m : c.getDeclaredMethods()) {
            if (hidden(m.getModifiers()) || m.isSynthetic()) {
                privates.add(m.getName());
            } else {
                publics.add(m.getName());
                methods.add(Modifier.toString(m.getModifiers()) + " " + m.getReturnType() + " " + m.getName()
                    + Arrays.toString(m.getParameterTypes()));
            }
        }
        due("the methods", methods, new TreeSet<>(Arrays.asList(
            "public boolean write[long]", "public void wipe[]", "public int load[]", "public int genes[]",
            "public int gene[char]", "public boolean fix[int, int]", "public int value[int, int]",
            "public int next[int]", "public int spread[int]", "public int analyse[boolean]",
            "public int size[int]", "public int least[int]", "public int attractor[int]",
            "public int basin[int]", "public int only[int]", "public int cubes[int]",
            "public int cube[int, int]")));

        for (Class<?> inside : c.getDeclaredClasses()) {
            due(inside + " static", Modifier.isStatic(inside.getModifiers()), true);
            for (Method m : inside.getDeclaredMethods()) {
                privates.add(m.getName());
            }
        }
        privates.retainAll(publics);
        due("inner names that the face has too", privates, new TreeSet<String>());

        TreeSet<String> fields = new TreeSet<>();
        for (Field f : c.getDeclaredFields()) {
            if (!hidden(f.getModifiers())) {
                fields.add(f.toString());
            }
        }
        due("the constants", fields, new TreeSet<>(Arrays.asList("public static final int RuleNetwork.NONE")));

        TreeSet<String> constructors = new TreeSet<>();
        for (Constructor<?> k : c.getDeclaredConstructors()) {
            constructors.add(k.toString());
        }
        due("the constructors", constructors, new TreeSet<>(Arrays.asList("public RuleNetwork()")));

        System.out.println(wrong == 0 ? "the face is as due" : wrong + " things of the face are not as due");
        if (wrong != 0) {
            System.exit(1);
        }
    }
}
