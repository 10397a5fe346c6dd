import java.lang.reflect.Constructor;
import java.lang.reflect.Field;
import java.lang.reflect.Method;
import java.lang.reflect.Modifier;
import java.util.Set;
import java.util.TreeSet;

/** The public face: the document's constants, constructor and methods, and nothing besides. */
public final class FaceTest {
    public static void main(String[] args) {
        Set<String> want = new TreeSet<>(Set.of(
            "int boat(int,int,int)", "int set(int,int,int)", "int told(int,int)", "int feed(int)", "int text()",
            "int force(int)", "int call(int)", "int time(int)", "int nobody()", "int callAt(int)"));
        want.addAll(Set.of("int allIn()", "int fetch(int,int)", "int launch(int)", "int one(int)", "int thunder(int,int)",
            "int stand()", "int heard(int)", "int where(int,int)", "int drawn(int)", "long chance(int,int,int)"));
        want.addAll(Set.of("int image()", "int back()", "int count(int)", "int sheet(int,int,int)",
            "int cell(int,int,int)", "int copy(int,int,int,int,int)", "int boats(int,int,int,int)", "int taken(int,int)"));
        want.addAll(Set.of("int NONE", "int BAD", "int STATE", "int FULL", "long NO", "()"));
        Set<String> got = seen();
        for (String member : want) {
            Check.due("the face has " + member, got.contains(member) ? 1 : 0, 1);
        }
        for (String member : got) {
            Check.due("the document has " + member, want.contains(member) ? 1 : 0, 1);
        }
        Check.due("the class is final", Modifier.isFinal(BoatsCalledIn.class.getModifiers()) ? 1 : 0, 1);
        Check.due("NONE", BoatsCalledIn.NONE, -1);
        Check.due("BAD", BoatsCalledIn.BAD, -2);
        Check.due("STATE", BoatsCalledIn.STATE, -3);
        Check.due("FULL", BoatsCalledIn.FULL, -4);
        Check.due("NO", BoatsCalledIn.NO, -4611686018427387904L);
        Check.end();
    }

    /** All members that are not private. */
    private static Set<String> seen() {
        Set<String> got = new TreeSet<>();
        for (Field f : BoatsCalledIn.class.getDeclaredFields()) {
            if (!Modifier.isPrivate(f.getModifiers())) {
                got.add(f.getType() + " " + f.getName());
            }
        }
        for (Method m : BoatsCalledIn.class.getDeclaredMethods()) {
            if (!Modifier.isPrivate(m.getModifiers()) && !m.isSynthetic()) {
                got.add(m.getReturnType() + " " + m.getName() + parameters(m.getParameterTypes()));
            }
        }
        for (Constructor<?> c : BoatsCalledIn.class.getDeclaredConstructors()) {
            got.add(parameters(c.getParameterTypes()));
        }
        return got;
    }

    private static String parameters(Class<?>[] types) {
        StringBuilder all = new StringBuilder("(");
        for (Class<?> type : types) {
            all.append(all.length() > 1 ? "," : "").append(type);
        }
        return all.append(")").toString();
    }
}
