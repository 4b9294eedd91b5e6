import java.lang.reflect.Constructor;
import java.lang.reflect.Field;
import java.lang.reflect.Method;
import java.lang.reflect.Modifier;
import java.util.Arrays;
import java.util.Set;
import java.util.TreeSet;

/** Promise 1, and the face: what the document shows, and nothing else that others can see. */
public final class FaceTest {
    private static final String[] METHODS = {
        "row(int,int,int)", "set(int,int,int)", "copy(int,int,int,int,int)", "drop(int)", "feed(long,int)",
        "house()", "fault()", "lift(int,int,int,int)", "forget()", "spot(int,int)", "papers(int)",
        "paper(int,int)", "orders()", "first(int)", "odds(int,int,int)", "next()", "years(int,int)",
        "younger(int,int)", "lacks(int,int)", "tenants(int)", "cupboard(int,int)", "scrap(int,int)",
        "tells(int)", "rolls(int,int,int)", "image(int)", "restore(int)", "kind(int)", "as(int,int)",
        "ask(int,int)", "trace(int)", "count(int)", "status()"};

    public static void main(String[] args) {
        face();
        constants();
        newObject();
        Due.end();
    }

    private static void face() {
        Class<?> c = PaperedOver.class;
        Due.is("public final", c.getModifiers() & (Modifier.PUBLIC | Modifier.FINAL), Modifier.PUBLIC | Modifier.FINAL);
        Set<String> want = new TreeSet<>(Arrays.asList(METHODS));
        Set<String> got = new TreeSet<>();
        Set<String> privates = new TreeSet<>();
        Set<String> names = new TreeSet<>();
        for (Method m : c.getDeclaredMethods()) {
            if (m.isSynthetic()) continue;
            if (Modifier.isPrivate(m.getModifiers())) {
                privates.add(m.getName());
                continue;
            }
            String types = Arrays.toString(m.getParameterTypes()).replaceAll("[\\[\\] ]", "");
            got.add(m.getName() + "(" + types + ")");
            names.add(m.getName());
            Due.is(m + " is int", m.getReturnType() == int.class ? 1 : 0, 1);
            Due.is(m + " is public, not static", m.getModifiers(), Modifier.PUBLIC);
        }
        Due.is("methods " + got, got.equals(want) ? 1 : 0, 1);
        privates.retainAll(names);
        Due.is("private methods that bear a public name: " + privates, privates.size(), 0);
        Constructor<?>[] makers = c.getDeclaredConstructors();
        Due.is("constructors", makers.length, 1);
        Due.is("constructor's parameters", makers[0].getParameterCount(), 0);
        Due.is("constructor is public", makers[0].getModifiers(), Modifier.PUBLIC);
    }

    private static void constants() {
        int open = 0;
        for (Field f : PaperedOver.class.getDeclaredFields()) {
            if (!Modifier.isPrivate(f.getModifiers())) open++;
        }
        Due.is("fields that others can see", open, 4);
        Due.is("NONE", PaperedOver.NONE, -1000000);
        Due.is("BAD", PaperedOver.BAD, -1000001);
        Due.is("STATE", PaperedOver.STATE, -1000002);
        Due.is("FULL", PaperedOver.FULL, -1000003);
    }

    private static void newObject() {
        PaperedOver x = new PaperedOver();
        Due.is("status", x.status(), 0);
        Due.is("fault", x.fault(), 0);
        for (int what = 0; what <= 5; what++) Due.is("count " + what, x.count(what), 0);
        Due.is("papers", x.papers(0), Due.STATE);
        Due.is("orders", x.orders(), Due.STATE);
        Due.is("next", x.next(), Due.STATE);
        Due.is("forget", x.forget(), Due.STATE);
        Due.is("image", x.image(0), Due.STATE);
        Due.is("restore 0", x.restore(0), Due.STATE);
        Due.is("restore 1", x.restore(1), Due.STATE);
        Due.is("paper", x.paper(0, 0), Due.BAD);
        Due.is("trace", x.trace(0), Due.NONE);
        for (int row = 0; row < 8; row++) Due.is("drop " + row, x.drop(row), Due.NULL);
    }
}
