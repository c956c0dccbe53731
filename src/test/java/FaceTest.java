import java.lang.reflect.Constructor;
import java.lang.reflect.Field;
import java.lang.reflect.Method;
import java.lang.reflect.Modifier;
import java.util.Set;
import java.util.TreeSet;

/** The public face: the constants, the constructor, the methods, and no more. */
public final class FaceTest {
    private static final Due due = new Due();
    private static final String[] METHODS = {
        "int leads(int,int,int)", "int near(int,int)", "int bag(int,int,int,int,int)", "int of(int,int)",
        "int set(int,int,int)", "int owner(int,int)", "int feed(int)", "int hall()", "int ride(int,boolean)",
        "long by(int,int,int)", "long where(int,int,int,int)", "int soonest(int,int)", "int ring(int)",
        "int steps(int,int)", "int like(int,int)", "int fit(int,int)", "int whose(int)", "int changed(int)",
        "long change(int,int,int)", "int need(int,int)", "int room(int)", "int film(int)", "int could(int)",
        "int judge(int,int)", "int image()", "int undo()", "int act(int,int,int)", "int trace(int)",
        "int taken(int,int)", "int count(int)", "int tape(int,int,int)", "int item(int,int,long)",
        "long read(int,int)", "int shift(int,int,int,int,int)",
    };

    public static void main(String[] args) {
        due.is("NONE", CaseElsewhere.NONE, -1);
        due.is("BAD", CaseElsewhere.BAD, -2);
        due.is("STATE", CaseElsewhere.STATE, -3);
        due.is("FULL", CaseElsewhere.FULL, -4);
        due.is("NO", CaseElsewhere.NO, -9223372036854775808L);
        Set<String> want = new TreeSet<>();
        for (String method : METHODS) {
            want.add(method);
        }
        want.add("int NONE");
        want.add("int BAD");
        want.add("int STATE");
        want.add("int FULL");
        want.add("long NO");
        want.add("CaseElsewhere()");
        Set<String> got = members();
        for (String one : want) {
            due.isTrue("there is " + one, got.contains(one));
        }
        for (String one : got) {
            due.isTrue("there is no more than " + one, want.contains(one));
        }
        due.isTrue("the class is public and final", CaseElsewhere.class.getModifiers() == (Modifier.PUBLIC | Modifier.FINAL));
        due.end();
    }

    private static Set<String> members() {
        Set<String> got = new TreeSet<>();
        Set<String> names = new TreeSet<>();
        for (Method m : CaseElsewhere.class.getDeclaredMethods()) {
            if (!Modifier.isPrivate(m.getModifiers()) && !m.isSynthetic()) {
                got.add(m.getReturnType().getName() + " " + m.getName() + list(m.getParameterTypes()));
                names.add(m.getName());
            }
        }
        for (Method m : CaseElsewhere.class.getDeclaredMethods()) {
            boolean isPrivate = Modifier.isPrivate(m.getModifiers());
            due.isTrue("no private method bears a public name: " + m.getName(), !isPrivate || !names.contains(m.getName()));
        }
        for (Field f : CaseElsewhere.class.getDeclaredFields()) {
            if (!Modifier.isPrivate(f.getModifiers())) {
                got.add(f.getType().getName() + " " + f.getName());
            }
        }
        for (Constructor<?> c : CaseElsewhere.class.getDeclaredConstructors()) {
            if (!Modifier.isPrivate(c.getModifiers())) {
                got.add("CaseElsewhere" + list(c.getParameterTypes()));
            }
        }
        return got;
    }

    private static String list(Class<?>[] types) {
        StringBuilder text = new StringBuilder("(");
        for (int i = 0; i < types.length; i++) {
            text.append(i == 0 ? "" : ",").append(types[i].getName());
        }
        return text.append(')').toString();
    }
}
