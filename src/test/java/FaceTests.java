import java.lang.reflect.Constructor;
import java.lang.reflect.Field;
import java.lang.reflect.Method;
import java.lang.reflect.Modifier;
import java.util.TreeSet;

/** The public face: the class has it, and nothing beside it. */
public final class FaceTests {
    private static final String[] FACE = {
        "int sign(int)", "boolean end(int)", "int land()", "int ships()", "int rule()", "int field(int,int)",
        "int ship(int,int)", "int pull(int,int)", "int set(int,int)", "int sheet(int,int,int,int)",
        "int drag(int,int)", "int plank(int)", "int hours(int)", "int siege()", "int undo()", "int way(int,int,int)",
        "int easy(int,int,int)", "int soon(int,int,int)", "int pass()", "int oxen(int)", "int can()",
        "int planks(int,int)", "int over(int)", "int kind(int,int)", "int quiet(int)", "int night(int,int,int)",
        "int walls(int)", "int storm(int,int)", "int town(int,int)", "int secret(int,int)", "int told(int,int)",
        "int trace(int,int)", "int forget()", "int fits()", "int ask()", "int law(int)", "int rests(int,int)",
        "int sieges(int,int)", "boolean keep(int)", "boolean again(int)", "int count(int)", "long row(int)"};

    public static void main(String[] args) {
        theConstant();
        theMembers();
        theClassesInside();
        Checks.finish("FaceTests");
    }

    private static void theConstant() {
        Checks.due("NONE", OverTheHill.NONE, -1);
        Checks.due("public and final", Modifier.isFinal(OverTheHill.class.getModifiers()), true);
    }

    private static void theMembers() {
        TreeSet<String> due = new TreeSet<>(java.util.List.of(FACE));
        TreeSet<String> names = new TreeSet<>();
        for (Method m : OverTheHill.class.getDeclaredMethods()) {
            if (Modifier.isPublic(m.getModifiers())) {
                names.add(m.getName());
                Checks.due("the document has " + told(m), due.remove(told(m)), true);
            }
        }
        Checks.due("missing: " + due, due.size(), 0);
        for (Method m : OverTheHill.class.getDeclaredMethods()) {
            if (!Modifier.isPublic(m.getModifiers())) {
                Checks.due(told(m) + " is private", Modifier.isPrivate(m.getModifiers()), true);
                Checks.due(told(m) + " bears a name of the face", names.contains(m.getName()), false);
            }
        }
        for (Field f : OverTheHill.class.getDeclaredFields()) {
            boolean isNone = f.getName().equals("NONE");
            Checks.due(f + " is private", Modifier.isPrivate(f.getModifiers()), !isNone);
            boolean changing = Modifier.isStatic(f.getModifiers()) && !Modifier.isFinal(f.getModifiers());
            Checks.due(f + " is static and not final", changing, false);
        }
        Constructor<?>[] all = OverTheHill.class.getDeclaredConstructors();
        Checks.due("constructors", all.length, 1);
        Checks.due("the constructor's parameters", all[0].getParameterCount(), 0);
        Checks.due("the constructor is public", Modifier.isPublic(all[0].getModifiers()), true);
    }

    private static void theClassesInside() {
        TreeSet<String> names = new TreeSet<>();
        for (String method : FACE) {
            names.add(method.substring(method.indexOf(' ') + 1, method.indexOf('(')));
        }
        for (Class<?> c : OverTheHill.class.getDeclaredClasses()) {
            Checks.due(c + " is static", Modifier.isStatic(c.getModifiers()), true);
            Checks.due(c + " is public", Modifier.isPublic(c.getModifiers()), false);
            for (Method m : c.getDeclaredMethods()) {
                Checks.due(c + "." + m.getName() + " bears a name of the face", names.contains(m.getName()), false);
            }
        }
        Checks.due("some twelve classes at most", OverTheHill.class.getDeclaredClasses().length <= 12, true);
    }

    private static String told(Method m) {
        StringBuilder b = new StringBuilder();
        for (Class<?> p : m.getParameterTypes()) {
            b.append(b.length() > 0 ? "," : "").append(p.getName());
        }
        return m.getReturnType().getName() + " " + m.getName() + "(" + b + ")";
    }
}
