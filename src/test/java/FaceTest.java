import java.lang.reflect.Constructor;
import java.lang.reflect.Field;
import java.lang.reflect.Method;
import java.lang.reflect.Modifier;
import java.util.ArrayList;
import java.util.Arrays;
import java.util.Collections;
import java.util.HashSet;
import java.util.List;
import java.util.Set;

/** The public face as the document has it, and nothing beside it (LANGUAGE.md, rules 1, 2, 5, 11). */
public final class FaceTest {
    private static final String[] FACE = {
        "int feed(int,int,int,int,int)",
        "int valley(int) IllegalArgumentException",
        "int way(int) IllegalArgumentException",
        "int task(int) IllegalArgumentException",
        "int fault()",
        "int told(int) IllegalArgumentException",
        "int act(int,int,int) IndexOutOfBoundsException NoSuchElementException IllegalArgumentException",
        "int judge(int) IndexOutOfBoundsException",
        "int heap(int,int) IllegalArgumentException",
        "int place(int,int) IllegalArgumentException",
        "int run(int,int) IndexOutOfBoundsException IllegalArgumentException IllegalStateException",
        "int ends(int) IllegalArgumentException",
        "int row(int) IllegalArgumentException",
        "int left(int) IllegalArgumentException",
        "int on()",
        "boolean holds(int,int) IndexOutOfBoundsException NoSuchElementException IllegalStateException",
        "int right(int,int,int,int) IndexOutOfBoundsException NoSuchElementException IllegalArgumentException IllegalStateException",
        "int least(int,int,int,int) IndexOutOfBoundsException NoSuchElementException IllegalArgumentException IllegalStateException",
        "int find(int,int,int,int,int,int) NoSuchElementException IllegalArgumentException",
        "int keep(int,int,int,int,int) NoSuchElementException IllegalArgumentException",
        "boolean can(int,int,int) IllegalArgumentException",
        "int why(int,int) IllegalArgumentException",
        "boolean cheat(int,int,int,int) IndexOutOfBoundsException NoSuchElementException IllegalArgumentException IllegalStateException",
        "int soon(int,int,int) IndexOutOfBoundsException IllegalArgumentException IllegalStateException",
        "int hidden(int,int,int) IndexOutOfBoundsException NoSuchElementException IllegalArgumentException IllegalStateException",
        "int places(int) IllegalArgumentException",
        "int pebbles(int) IllegalArgumentException",
        "int fewest(int) IllegalArgumentException",
        "int tell(int,int) IllegalArgumentException",
        "int word(int,int) IllegalArgumentException",
        "int stranger(int,int,int,int) IllegalArgumentException",
        "int field(int,int,int) IllegalArgumentException",
        "int share(int,int,int) IllegalArgumentException",
        "int even(int,int) IllegalArgumentException",
        "int envy(int,int,int) IllegalArgumentException",
        "int mind(long,int,int) IllegalArgumentException",
        "boolean mark(int,int,boolean) IllegalArgumentException",
        "int agree(int,int) IllegalArgumentException",
        "int kept(int,int,int,int,int) IndexOutOfBoundsException NoSuchElementException IllegalArgumentException IllegalStateException",
        "int rate(int,int,int,int) IllegalArgumentException",
        "int trade(int,int) IllegalArgumentException",
        "int whole(int,int) IllegalArgumentException",
        "int knows(int,int) IllegalArgumentException",
        "int woman(int,int) IllegalArgumentException",
        "int image()",
        "int restore()",
        "int status(int)",
        "int count(int)"};

    public static void main(String[] args) {
        Class<?> face = NothingAboveThree.class;
        Check.due(true, "public and final", () -> Modifier.isPublic(face.getModifiers()) && Modifier.isFinal(face.getModifiers()));
        Check.due(-1, "NONE", () -> NothingAboveThree.NONE);
        methods(face);
        members(face);
        nested(face);
        Check.end();
    }

    private static String described(Method m) {
        StringBuilder text = new StringBuilder();
        text.append(m.getReturnType().getSimpleName()).append(' ').append(m.getName()).append('(');
        for (int i = 0; i < m.getParameterCount(); i++) {
            text.append(i == 0 ? "" : ",").append(m.getParameterTypes()[i].getSimpleName());
        }
        text.append(')');
        for (Class<?> e : m.getExceptionTypes()) {
            text.append(' ').append(e.getSimpleName());
        }
        return text.toString();
    }

    private static void methods(Class<?> face) {
        List<String> got = new ArrayList<>();
        for (Method m : face.getDeclaredMethods()) {
            if (!Modifier.isPrivate(m.getModifiers())) {
                got.add(described(m));
            }
        }
        List<String> want = new ArrayList<>(Arrays.asList(FACE));
        Collections.sort(got);
        Collections.sort(want);
        Check.due(want, "the methods", () -> got);
    }

    private static void members(Class<?> face) {
        for (Field f : face.getDeclaredFields()) {
            boolean none = f.getName().equals("NONE");
            Check.due(true, "field " + f.getName(), () -> none || Modifier.isPrivate(f.getModifiers()));
        }
        Constructor<?>[] all = face.getDeclaredConstructors();
        Check.due(1, "constructors", () -> all.length);
        Check.due(true, "public, without parameters",
                () -> Modifier.isPublic(all[0].getModifiers()) && all[0].getParameterCount() == 0);
    }

    private static void nested(Class<?> face) {
        Set<String> names = new HashSet<>();
        for (String line : FACE) {
            names.add(line.substring(line.indexOf(' ') + 1, line.indexOf('(')));
        }
        List<Class<?>> all = new ArrayList<>(Arrays.asList(face.getDeclaredClasses()));
        Check.due(true, "some twelve classes", () -> all.size() <= 12);
        all.add(face);
        for (Class<?> c : all) {
            boolean outer = c == face;
            Check.due(true, c.getName(), () -> outer || Modifier.isPrivate(c.getModifiers()) && Modifier.isStatic(c.getModifiers()));
            int fields = 0;
            for (Field f : c.getDeclaredFields()) {
                boolean constant = Modifier.isStatic(f.getModifiers());
                fields += constant ? 0 : 1;
                Check.due(true, "constant " + f, () -> !constant || Modifier.isFinal(f.getModifiers()));
            }
            int count = fields;
            Check.due(true, "fields of " + c.getName(), () -> count <= 20);
            for (Method m : c.getDeclaredMethods()) {
                Check.due(true, "name " + m, () -> outer && Modifier.isPublic(m.getModifiers()) || !names.contains(m.getName()));
                Check.due(true, "parameters of " + m, () -> m.getParameterCount() <= 7);
            }
        }
    }
}
