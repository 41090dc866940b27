import java.lang.reflect.Constructor;
import java.lang.reflect.Field;
import java.lang.reflect.Method;
import java.lang.reflect.Modifier;
import java.util.Set;
import java.util.TreeSet;

/** The face of the document and no other member; how many classes, fields and parameters there are. */
public final class FaceTest {
    private static final String[] FACE = {"write/1", "wipe/0", "fault/0", "lay/0", "figure/2", "coin/1", "strike/2",
        "standIn/2", "undo/0", "said/1", "next/1", "rank/1", "kth/1", "sum/1", "ways/1", "shortest/2", "change/1",
        "never/0", "pays/1", "day/1", "agree/0", "odds/2", "mean/1", "dark/2", "forget/0", "works/0", "costs/2",
        "dearest/2", "bargain/3", "days/3", "keep/0", "back/0", "count/1"};

    public static void main(String[] args) {
        constants();
        members();
        classesInside();
        Due.end();
    }

    private static void constants() {
        Due.is("BAD", SevenOnStrike.BAD, -1);
        Due.is("NO", SevenOnStrike.NO, -2);
        Due.is("FULL", SevenOnStrike.FULL, -3);
        Due.is("NONE", SevenOnStrike.NONE, -4);
    }

    private static void members() {
        Class<?> face = SevenOnStrike.class;
        Due.is("modifiers", face.getModifiers(), Modifier.PUBLIC | Modifier.FINAL);
        Due.is("constructors", face.getDeclaredConstructors().length, 1);
        for (Constructor<?> c : face.getDeclaredConstructors()) {
            Due.holds("a public constructor without parameters",
                c.getParameterCount() == 0 && c.getModifiers() == Modifier.PUBLIC);
        }
        Set<String> found = new TreeSet<>();
        Set<String> names = new TreeSet<>();
        for (Method m : face.getDeclaredMethods()) {
            if (m.getModifiers() == Modifier.PUBLIC && m.getReturnType() == int.class) {
                found.add(m.getName() + "/" + m.getParameterCount());
                names.add(m.getName());
            } else {
                Due.holds(m + " is private", Modifier.isPrivate(m.getModifiers()));
            }
        }
        Due.holds("the methods are those of the face: " + found, found.equals(Set.of(FACE)));
        for (Class<?> c : withInside(face)) {
            for (Method m : c.getDeclaredMethods()) {
                Due.holds(m + " does not bear a public name",
                    Modifier.isPublic(m.getModifiers()) || !names.contains(m.getName()));
            }
        }
        for (Field f : face.getDeclaredFields()) {
            boolean told = Set.of("BAD", "NO", "FULL", "NONE").contains(f.getName());
            Due.holds(f + " is as told", told == Modifier.isPublic(f.getModifiers())
                && told != Modifier.isPrivate(f.getModifiers()));
        }
    }

    private static Class<?>[] withInside(Class<?> face) {
        Class<?>[] inside = face.getDeclaredClasses();
        Class<?>[] all = java.util.Arrays.copyOf(inside, inside.length + 1);
        all[inside.length] = face;
        return all;
    }

    private static void classesInside() {
        Due.holds("at most twelve classes", withInside(SevenOnStrike.class).length <= 12);
        for (Class<?> c : withInside(SevenOnStrike.class)) {
            int fields = 0;
            for (Field f : c.getDeclaredFields()) {
                boolean fixed = Modifier.isStatic(f.getModifiers());
                Due.holds(f + " is final if static", !fixed || Modifier.isFinal(f.getModifiers()));
                fields += fixed ? 0 : 1;
            }
            Due.holds(c + " has at most twenty fields", fields <= 20);
            Due.holds(c + " is static", c == SevenOnStrike.class || Modifier.isStatic(c.getModifiers()));
            for (Method m : c.getDeclaredMethods()) {
                Due.holds(m + " takes at most seven", m.getParameterCount() <= 7);
            }
        }
    }
}
