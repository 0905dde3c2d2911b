import java.lang.reflect.Constructor;
import java.lang.reflect.Field;
import java.lang.reflect.Method;
import java.lang.reflect.Modifier;
import java.util.Set;
import java.util.TreeSet;

// The face of the class is that of the document, and nothing besides.
public final class FaceTest {
    private static final String[] FACE = {
        "public static final int BAD", "public static final int FULL", "public static final int NONE",
        "public static final int STATE", "public static final long NO",
        "public ()",
        "public int back()", "public int best(int,int)", "public int better(int,int)",
        "public int cell(int,int,int)", "public int change(int,int)", "public int copy(int,int,int,int,int)",
        "public int count(int)", "public int day()", "public int drawn(int,int)", "public int feed(int)",
        "public int film(int)", "public int force(int)", "public int from(int)", "public int groom(int,int,int)",
        "public int grooms(int,int,int,int)", "public int image()", "public int keys(int)", "public int ring(int)",
        "public int rings(int)", "public int run(int,int)", "public int set(int,int,int)",
        "public int sheet(int,int,int)", "public int taken(int,int)", "public int tells(int,int)",
        "public int text()", "public int told(int,int)", "public long chance(int,int,int)"
    };

    private static String list(Class<?>[] types) {
        StringBuilder all = new StringBuilder("(");
        for (Class<?> type : types) {
            all.append(all.length() > 1 ? "," : "").append(type.getName());
        }
        return all.append(")").toString();
    }

    private static boolean isShown(int modifiers, boolean isMadeByJavac) {
        return !Modifier.isPrivate(modifiers) && !isMadeByJavac;
    }

    public static void main(String[] args) throws Exception {
        Set<String> due = new TreeSet<>(java.util.Arrays.asList(FACE));
        Set<String> got = new TreeSet<>();
        Set<String> open = new TreeSet<>();
        Set<String> hidden = new TreeSet<>();
        for (Field f : SewnUp.class.getDeclaredFields()) {
            if (isShown(f.getModifiers(), f.isSynthetic())) {
                got.add(Modifier.toString(f.getModifiers()) + " " + f.getType().getName() + " " + f.getName());
            }
        }
        for (Constructor<?> c : SewnUp.class.getDeclaredConstructors()) {
            if (isShown(c.getModifiers(), c.isSynthetic())) {
                got.add(Modifier.toString(c.getModifiers()) + " " + list(c.getParameterTypes()));
            }
        }
        for (Method m : SewnUp.class.getDeclaredMethods()) {
            if (isShown(m.getModifiers(), m.isSynthetic())) {
                got.add(Modifier.toString(m.getModifiers()) + " " + m.getReturnType().getName() + " " + m.getName()
                        + list(m.getParameterTypes()));
                open.add(m.getName());
            } else {
                hidden.add(m.getName());
            }
        }
        boolean isWrong = !due.equals(got);
        for (String d : due) {
            if (!got.contains(d)) {
                System.out.println("missing: " + d);
            }
        }
        for (String g : got) {
            if (!due.contains(g)) {
                System.out.println("not in the document: " + g);
            }
        }
        hidden.retainAll(open);
        if (!hidden.isEmpty()) {
            System.out.println("private methods that bear a public one's name: " + hidden);
            isWrong = true;
        }
        if (!Modifier.isFinal(SewnUp.class.getModifiers()) || !Modifier.isPublic(SewnUp.class.getModifiers())) {
            System.out.println("the class is not public and final");
            isWrong = true;
        }
        System.out.println(isWrong ? "the face is wrong" : "the face is as due");
        if (isWrong) {
            System.exit(1);
        }
    }
}
