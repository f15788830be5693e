import java.lang.reflect.Constructor;
import java.lang.reflect.Field;
import java.lang.reflect.Method;
import java.lang.reflect.Modifier;
import java.util.Set;
import java.util.TreeSet;

/** The public face: just the document's constants, constructor and methods. */
public final class FaceTest {
    private static final String[] FACE = {
        "int find(int,int,int)", "int set(int,int,int)", "int told(int,int)", "int feed(int)", "int text()",
        "int force(int)", "int beep(int)", "int walk(int)", "int plough()", "int found(int,int)",
        "int years(int)", "int soonest(int)", "int strips(int,int)", "int better()", "int order(int,int)",
        "int pot()", "int came(int,int)", "int dots(int)", "int thick()", "int judge(int,int)",
        "int unseen()", "int left(int)", "int drawn(int)", "long odds(int,int,int,int)", "int image()",
        "int back()", "int count(int)", "int sheet(int,int,int)", "int cell(int,int,int)",
        "int copy(int,int,int,int,int)", "int finds(int,int,int,int)", "int taken(int,int)",
    };

    public static void main(String[] args) {
        Checks c = new Checks();
        Set<String> want = new TreeSet<>(Set.of(FACE));
        Set<String> publicNames = new TreeSet<>();
        for (String call : FACE) {
            publicNames.add(call.substring(call.indexOf(' ') + 1, call.indexOf('(')));
        }
        Set<String> got = new TreeSet<>();
        for (Method m : FieldBeeps.class.getDeclaredMethods()) {
            if (Modifier.isPrivate(m.getModifiers())) {
                c.isTrue("private " + m.getName() + " is no public name", !publicNames.contains(m.getName()));
            } else {
                c.isTrue(m.getName() + " is public", Modifier.isPublic(m.getModifiers()));
                c.isTrue(m.getName() + " is an object's", !Modifier.isStatic(m.getModifiers()));
                got.add(signature(m));
            }
        }
        c.isTrue("methods are " + got + ", due are " + want, got.equals(want));
        fields(c);
        Constructor<?>[] made = FieldBeeps.class.getDeclaredConstructors();
        c.due("constructors", made.length, 1);
        c.isTrue("the constructor is public", Modifier.isPublic(made[0].getModifiers()));
        c.due("the constructor's parameters", made[0].getParameterCount(), 0);
        c.isTrue("the class is public and final", Modifier.isFinal(FieldBeeps.class.getModifiers())
                && Modifier.isPublic(FieldBeeps.class.getModifiers()));
        c.end();
    }

    private static String signature(Method m) {
        StringBuilder all = new StringBuilder();
        for (Class<?> type : m.getParameterTypes()) {
            all.append(all.length() == 0 ? "" : ",").append(type.getName());
        }
        return m.getReturnType().getName() + " " + m.getName() + "(" + all + ")";
    }

    private static void fields(Checks c) {
        Set<String> open = new TreeSet<>();
        for (Field f : FieldBeeps.class.getDeclaredFields()) {
            if (!Modifier.isPrivate(f.getModifiers())) {
                open.add(f.getType().getName() + " " + f.getName());
                c.isTrue(f.getName() + " is a constant", Modifier.isPublic(f.getModifiers())
                        && Modifier.isStatic(f.getModifiers()) && Modifier.isFinal(f.getModifiers()));
            }
        }
        c.isTrue("fields are " + open,
                open.equals(Set.of("int NONE", "int BAD", "int STATE", "int FULL", "long NO")));
        c.due("NONE", FieldBeeps.NONE, -1);
        c.due("BAD", FieldBeeps.BAD, -2);
        c.due("STATE", FieldBeeps.STATE, -3);
        c.due("FULL", FieldBeeps.FULL, -4);
        c.due("NO", FieldBeeps.NO, -4611686018427387904L);
    }
}
