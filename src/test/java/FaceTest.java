import java.lang.reflect.Field;
import java.lang.reflect.Member;
import java.lang.reflect.Method;
import java.lang.reflect.Modifier;
import java.util.Arrays;
import java.util.Set;
import java.util.TreeSet;

/** The public face, and what LANGUAGE.md says of members (rules 1, 2, 5, 11). */
public final class FaceTest {
    private static final Due D = new Due();
    private static final String[] FACE = {
        "int count(int)", "int sets(int,int)", "int row(int)", "int feed(int,int,int,int,int,int)", "int text()",
        "int force(int)", "int asks(int,int)", "int mower(int,int)", "int put(int,int,int)", "int told(int,int)",
        "int stroke()", "int run(int,int)", "int when(int)", "int often(int,int,int)", "int gap(int,int)",
        "int stands(int,int,int)", "int tempo(int,int)", "int order(int,int)", "long mean(int,int)",
        "int judge(int,int)", "int kinds(int,int,int)", "int states(int,int,int)", "int weary(int,int,int)",
        "int whose(int)", "int laws(int,int)", "int film(int,int,int)", "int drawn(int,int)",
        "long odds(int,int,int,int)", "int image()", "int back()", "int sheet(int,int,int)", "int cell(int,int,int)",
        "int copy(int,int,int,int,int)", "int mowersBy(int,int,int,int)", "int taken(int,int)"};

    public static void main(String[] args) {
        constants();
        methods();
        members(ScythesKeepStep.class, true);
        for (Class<?> inside : ScythesKeepStep.class.getDeclaredClasses()) {
            members(inside, false);
        }
        D.end();
    }

    private static void constants() {
        D.due("NONE", ScythesKeepStep.NONE, -1);
        D.due("BAD", ScythesKeepStep.BAD, -2);
        D.due("STATE", ScythesKeepStep.STATE, -3);
        D.due("FULL", ScythesKeepStep.FULL, -4);
        D.due("NO", ScythesKeepStep.NO, -(1L << 62));
        Set<String> names = new TreeSet<>();
        for (Field f : ScythesKeepStep.class.getFields()) {
            names.add(f.getType() + " " + f.getName());
        }
        D.holds("constants: " + names, names.equals(
            new TreeSet<>(Set.of("int NONE", "int BAD", "int STATE", "int FULL", "long NO"))));
    }

    private static void methods() {
        Set<String> found = new TreeSet<>();
        for (Method m : ScythesKeepStep.class.getDeclaredMethods()) {
            if (Modifier.isPublic(m.getModifiers())) {
                String types = Arrays.toString(m.getParameterTypes()).replaceAll("[\\[\\] ]", "");
                found.add(m.getReturnType() + " " + m.getName() + "(" + types + ")");
                D.holds(m.getName() + " is no static method", !Modifier.isStatic(m.getModifiers()));
            }
        }
        D.holds("methods: " + found, found.equals(new TreeSet<>(Arrays.asList(FACE))));
        D.due("constructors", ScythesKeepStep.class.getConstructors().length, 1);
        D.due("arguments of it", ScythesKeepStep.class.getConstructors()[0].getParameterCount(), 0);
        D.holds("public and final", Modifier.isPublic(ScythesKeepStep.class.getModifiers())
            && Modifier.isFinal(ScythesKeepStep.class.getModifiers()));
    }

    private static void members(Class<?> c, boolean outer) {
        Set<String> face = new TreeSet<>();
        for (String f : FACE) {
            face.add(f.substring(f.indexOf(' ') + 1, f.indexOf('(')));
        }
        int fields = 0;
        for (Field f : c.getDeclaredFields()) {
            boolean isStatic = Modifier.isStatic(f.getModifiers());
            fields += isStatic ? 0 : 1;
            D.holds(c + ": static " + f.getName() + " is final", !isStatic || Modifier.isFinal(f.getModifiers()));
            hidden(c, f, outer);
        }
        D.holds(c + ": some twenty fields", fields <= 20);
        for (Method m : c.getDeclaredMethods()) {
            hidden(c, m, outer);
            D.holds(c + "." + m.getName() + ": seven parameters", m.getParameterCount() <= 7);
            boolean mayBear = outer && Modifier.isPublic(m.getModifiers());
            D.holds(c + "." + m.getName() + " bears no public name", mayBear || !face.contains(m.getName()));
        }
        D.holds(c + " is static", outer || Modifier.isStatic(c.getModifiers()));
        D.holds(c + " is not public", outer || !Modifier.isPublic(c.getModifiers()));
    }

    private static void hidden(Class<?> c, Member m, boolean outer) {
        boolean fine = !outer || Modifier.isPrivate(m.getModifiers()) || Modifier.isPublic(m.getModifiers());
        D.holds(c + ": " + m.getName() + " is private or of the face", fine || m.isSynthetic());
    }
}
