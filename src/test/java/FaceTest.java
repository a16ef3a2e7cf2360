import java.lang.reflect.Constructor;
import java.lang.reflect.Field;
import java.lang.reflect.Method;
import java.lang.reflect.Modifier;
import java.util.Arrays;
import java.util.Set;
import java.util.TreeSet;

/** The public face, as the document writes it, and nothing beside it. */
public final class FaceTest {
    private static final String[] METHODS = {
        "int type(boolean,int,int)", "int above(int,int)", "int face(int,int)", "int unface(int,int)",
        "int marks(int,int)", "int field(int,int,int,int,long)", "int method(int,int,int,int,int,int)",
        "int drop(int)", "int mark(int,int)", "int set(int,long)", "int retype(int,int,long)", "int move(int,int)",
        "int undo()", "int get(int,int)", "int call(int,int,int,int)", "int make(int)", "int meet(int,int)",
        "long asked()", "int anew(int,int)", "int culprit(int,int)", "int caller(int,int)", "int told(int,int)",
        "int below(int,int)", "int member(int,int)", "int selected(int,int)", "int count(int)", "long digest()"};

    private static String written(Method m) {
        StringBuilder s = new StringBuilder(m.getReturnType().getSimpleName()).append(' ').append(m.getName()).append('(');
        Class<?>[] all = m.getParameterTypes();
        for (int i = 0; i < all.length; i++) {
            s.append(i == 0 ? "" : ",").append(all[i].getSimpleName());
        }
        return s.append(')').toString();
    }

    private static void methods() {
        Set<String> due = new TreeSet<>(Arrays.asList(METHODS));
        Set<String> names = new TreeSet<>();
        Set<String> got = new TreeSet<>();
        for (Method m : Edits13.class.getDeclaredMethods()) {
            if (Modifier.isPublic(m.getModifiers())) {
                got.add(written(m));
                names.add(m.getName());
            }
        }
        Due.same("public methods " + got + ": are they those of the document", got.equals(due) ? 1 : 0, 1);
        for (Method m : Edits13.class.getDeclaredMethods()) {
            boolean fine = Modifier.isPublic(m.getModifiers())
                || Modifier.isPrivate(m.getModifiers()) && !names.contains(m.getName());
            Due.same(m + ": is it public, or private with a name of its own", fine ? 1 : 0, 1);
        }
    }

    private static void fields() {
        Set<String> got = new TreeSet<>();
        for (Field f : Edits13.class.getDeclaredFields()) {
            if (Modifier.isPublic(f.getModifiers())) {
                got.add(f.getName());
            }
            boolean fine = Modifier.isPublic(f.getModifiers()) || Modifier.isPrivate(f.getModifiers());
            Due.same(f + ": is it public or private", fine ? 1 : 0, 1);
            Due.same(f + ": is it final, if it is static",
                !Modifier.isStatic(f.getModifiers()) || Modifier.isFinal(f.getModifiers()) ? 1 : 0, 1);
        }
        boolean right = got.equals(new TreeSet<>(Arrays.asList("BAD", "NONE", "FULL", "RING")));
        Due.same("public constants " + got + ": are they those of the document", right ? 1 : 0, 1);
        Due.same("BAD", Edits13.BAD, -1);
        Due.same("NONE", Edits13.NONE, -2);
        Due.same("FULL", Edits13.FULL, -3);
        Due.same("RING", Edits13.RING, -4);
    }

    private static void theRest() {
        Due.same("Edits13: is it final", Modifier.isFinal(Edits13.class.getModifiers()) ? 1 : 0, 1);
        Constructor<?>[] made = Edits13.class.getDeclaredConstructors();
        Due.same("how many constructors", made.length, 1);
        Due.same("how many parameters it has", made[0].getParameterCount(), 0);
        Due.same("is it public", Modifier.isPublic(made[0].getModifiers()) ? 1 : 0, 1);
        for (Class<?> inside : Edits13.class.getDeclaredClasses()) {
            int m = inside.getModifiers();
            Due.same(inside + ": is it static and not public", Modifier.isStatic(m) && !Modifier.isPublic(m) ? 1 : 0, 1);
        }
    }

    public static void main(String[] args) {
        methods();
        fields();
        theRest();
        Due.end();
    }
}
