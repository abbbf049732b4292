import java.lang.reflect.Constructor;
import java.lang.reflect.Field;
import java.lang.reflect.Method;
import java.lang.reflect.Modifier;
import java.util.Set;
import java.util.TreeSet;

/** Rule 1 of LANGUAGE.md: the document's face and no other member that can be seen. */
public final class FaceTest {
    private static final String[] FACE = {
        "int bridge(int,int)", "int beggar(int,int)", "int beggars(int,int,int)", "int mend(int,int,int)",
        "int of(int,int)", "int feed(int)", "int law()", "int cracks(int)", "int later(int,int,int)",
        "int county(int,int)", "int falls(int)", "int rich(int)", "int without(int)", "int moved(int,int)",
        "int lasting(int)", "int way(int,int)", "int needed()", "int judge(int,int)",
        "int fits(int,int,int,int)", "int fined(int,int)", "int claim(int)", "int byTurns(int,int,int)",
        "int drawn(int,int,int)", "int day()", "int sits(int,int)", "int given(int,int)",
        "int repair(int,int)", "int led(int)", "int image()", "int back()", "int undo()", "int redo()",
        "int body(int)", "int act(int,int,int)", "int trace(int)", "int keep(int,int)", "int row(int,int,int)",
        "int put(int,int,long)", "long element(int,int)", "int shift(int,int,int,int,int)",
        "int taken(int,int)", "int count(int)"};

    public static void main(String[] args) {
        Class<?> c = BeggarBridge.class;
        Due.isTrue("the class is public and final",
                Modifier.isPublic(c.getModifiers()) && Modifier.isFinal(c.getModifiers()));
        Set<String> seen = new TreeSet<>();
        Set<String> publicNames = new TreeSet<>();
        for (Method m : c.getDeclaredMethods()) {
            if (!Modifier.isPrivate(m.getModifiers())) {
                seen.add(told(m));
                publicNames.add(m.getName());
                Due.isTrue(m + " is public", Modifier.isPublic(m.getModifiers()));
            }
        }
        Due.isTrue("the methods are " + seen, seen.equals(new TreeSet<>(java.util.List.of(FACE))));
        Set<String> fields = new TreeSet<>();
        for (Field f : c.getDeclaredFields()) {
            if (!Modifier.isPrivate(f.getModifiers())) {
                fields.add(f.getName());
            }
        }
        Due.isTrue("the constants are " + fields, fields.equals(Set.of("BAD", "NOT", "FULL", "STATE", "VOID")));
        Constructor<?>[] made = c.getDeclaredConstructors();
        Due.isTrue("one public constructor", made.length == 1 && Modifier.isPublic(made[0].getModifiers())
                && made[0].getParameterCount() == 0);
        namesOfMethods(c, publicNames, true);
        for (Class<?> inside : c.getDeclaredClasses()) {
            Due.isTrue(inside + " is static and not public", Modifier.isStatic(inside.getModifiers())
                    && !Modifier.isPublic(inside.getModifiers()) && !Modifier.isProtected(inside.getModifiers()));
            namesOfMethods(inside, publicNames, false);
            int fieldsOfObject = 0;
            for (Field f : inside.getDeclaredFields()) {
                fieldsOfObject += Modifier.isStatic(f.getModifiers()) ? 0 : 1;
                Due.isTrue(f + ", if static, is final",
                        !Modifier.isStatic(f.getModifiers()) || Modifier.isFinal(f.getModifiers()));
            }
            Due.isTrue(inside + " has few fields", fieldsOfObject <= 20);
        }
        Due.isTrue("at most some twelve classes", c.getDeclaredClasses().length + 1 <= 12);
        Due.end();
    }

    private static void namesOfMethods(Class<?> c, Set<String> publicNames, boolean face) {
        for (Method m : c.getDeclaredMethods()) {
            boolean ofFace = face && Modifier.isPublic(m.getModifiers());
            Due.isTrue(m + " bears a name of the face", ofFace || !publicNames.contains(m.getName()));
            Due.isTrue(m + " has few parameters", m.getParameterCount() <= 7);
        }
    }

    private static String told(Method m) {
        StringBuilder b = new StringBuilder();
        b.append(m.getReturnType().getName()).append(' ').append(m.getName()).append('(');
        for (int i = 0; i < m.getParameterCount(); i++) {
            b.append(i == 0 ? "" : ",").append(m.getParameterTypes()[i].getName());
        }
        return b.append(')').toString();
    }
}
