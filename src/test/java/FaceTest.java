import java.lang.reflect.Constructor;
import java.lang.reflect.Field;
import java.lang.reflect.Method;
import java.lang.reflect.Modifier;
import java.util.List;
import java.util.Set;
import java.util.TreeSet;

/** The public face of the document, and rule 1 of LANGUAGE.md: nothing beside it can be seen. */
public final class FaceTest {
    private static final List<String> FACE = List.of(
        "int type(2)", "int wipe(1)", "int undo(1)", "int fault(1)", "int guest(3)", "int set(2)", "int read(1)",
        "int judged(0)", "int lies(3)", "int lifted(1)", "int rows(1)", "int proof(1)", "int least(2)", "int rule(2)",
        "int best(1)", "int gap(1)", "long mean(2)", "long heap(2)", "int out(1)", "int wrong(1)", "int swaps(0)",
        "long alike(1)", "int ahead(2)", "int forget(0)", "long fits(1)", "int sure(3)", "int firsts(1)",
        "long night(2)", "int sheet(3)", "int lose(1)", "int put(4)", "int get(3)", "int copy(5)", "int write(1)",
        "int count(1)", "long digest(0)");

    public static void main(String[] args) {
        methods();
        fields();
        Class<?> face = ShoesHall.class;
        Check.due("public and final", face.getModifiers() & (Modifier.PUBLIC | Modifier.FINAL), Modifier.PUBLIC | Modifier.FINAL);
        Constructor<?>[] made = face.getDeclaredConstructors();
        Check.due("one constructor", made.length, 1);
        Check.due("without arguments", made[0].getParameterCount(), 0);
        Check.due("that is public", made[0].getModifiers(), Modifier.PUBLIC);
        for (Class<?> inside : face.getDeclaredClasses()) {
            Check.due(inside.getName() + " is static", inside.getModifiers() & Modifier.STATIC, Modifier.STATIC);
            Check.due(inside.getName() + " is not public", inside.getModifiers() & (Modifier.PUBLIC | Modifier.PROTECTED), 0);
        }
        Check.due("at most twelve classes", face.getDeclaredClasses().length <= 11 ? 1 : 0, 1);
        Check.end("FaceTest");
    }

    private static void methods() {
        Set<String> seen = new TreeSet<>();
        Set<String> names = new TreeSet<>();
        for (String line : FACE) names.add(line.substring(line.indexOf(' ') + 1, line.indexOf('(')));
        for (Method m : ShoesHall.class.getDeclaredMethods()) {
            if (Modifier.isPrivate(m.getModifiers())) {
                Check.due("a private method is named " + m.getName(), names.contains(m.getName()) ? 1 : 0, 0);
            } else {
                seen.add(m.getReturnType() + " " + m.getName() + "(" + m.getParameterCount() + ")");
                for (Class<?> p : m.getParameterTypes()) Check.due(m.getName() + " takes ints", p == int.class ? 1 : 0, 1);
                Check.due(m.getName() + " is just public", m.getModifiers(), Modifier.PUBLIC);
            }
        }
        Check.due("methods of the face " + seen, seen.equals(new TreeSet<>(FACE)) ? 1 : 0, 1);
    }

    private static void fields() {
        Set<String> seen = new TreeSet<>();
        for (Field f : ShoesHall.class.getDeclaredFields()) {
            if (!Modifier.isPrivate(f.getModifiers())) seen.add(f.getName());
        }
        Check.due("constants of the face " + seen, seen.equals(Set.of("NONE", "BAD", "NOT", "FULL")) ? 1 : 0, 1);
        Check.due("NONE", ShoesHall.NONE, -1);
        Check.due("BAD", ShoesHall.BAD, -2);
        Check.due("NOT", ShoesHall.NOT, -3);
        Check.due("FULL", ShoesHall.FULL, -4);
    }
}
