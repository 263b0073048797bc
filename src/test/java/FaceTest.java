import java.lang.reflect.Constructor;
import java.lang.reflect.Field;
import java.lang.reflect.Method;
import java.lang.reflect.Modifier;
import java.util.Set;
import java.util.TreeSet;

/** The class has the document's face, and nothing else that can be seen from outside. */
public final class FaceTest {
    private static final String[] METHODS = {
        "int row(int,int)", "int lay(int,int,int)", "int at(int,int)", "int tear(int)",
        "int copy(int,int,int,int,int)", "int mean(int)", "int text(int,int)", "int put(int,int,int)",
        "int fault(int)", "int index(int)", "int enter(int,int,int)", "int take(int,int)",
        "int strip(int,int)", "int change(int)", "int undo(int)", "int keep(int)", "int on(int)",
        "int find(int,int)", "int longest(int,int)", "int next(int,int)", "int nth(int)",
        "int rank(int,int)", "int between(int,int,int,int)", "int node(int,int,int)",
        "int mark(int,int,int)", "int twins()", "int best()", "int lately(int)", "int lots(int,int)",
        "int asked()", "int count(int)", "int finding()", "int findings(int)", "long digest()"};
    private static final String[] CONSTANTS = {"BAD", "FULL", "FINDING", "STATE", "SPENT", "NONE"};
    private static int wrong = 0;

    public static void main(String[] args) {
        Class<?> face = NibbleTrunk.class;
        check("the class is public and final",
                Modifier.isPublic(face.getModifiers()) && Modifier.isFinal(face.getModifiers()));
        checkMethods(face);
        checkFields(face);
        Constructor<?>[] constructors = face.getDeclaredConstructors();
        check("one public constructor without arguments", constructors.length == 1
                && constructors[0].getParameterCount() == 0 && Modifier.isPublic(constructors[0].getModifiers()));
        for (Class<?> inside : face.getDeclaredClasses()) {
            int m = inside.getModifiers();
            check(inside + " is static, not public", Modifier.isStatic(m) && !Modifier.isPublic(m) && !Modifier.isProtected(m));
            checkNames(inside);
            checkSize(inside);
        }
        checkSize(face);
        check("twelve classes at most", face.getDeclaredClasses().length < 12);
        System.out.println(wrong == 0 ? "the face is as told" : wrong + " things of the face are not as told");
        if (wrong != 0) System.exit(1);
    }

    private static void check(String what, boolean holds) {
        if (!holds) {
            wrong++;
            System.out.println("not so: " + what);
        }
    }

    private static void checkMethods(Class<?> face) {
        Set<String> want = new TreeSet<>(Set.of(METHODS));
        Set<String> names = names();
        Set<String> got = new TreeSet<>();
        for (Method method : face.getDeclaredMethods()) {
            if (Modifier.isPrivate(method.getModifiers())) {
                check("private " + method.getName() + " bears no public name", !names.contains(method.getName()));
            } else {
                check(method + " is public and of the object", (method.getModifiers() & ~Modifier.FINAL) == Modifier.PUBLIC);
                got.add(signature(method));
            }
        }
        check("the methods " + want + ", not " + got, want.equals(got));
    }

    private static void checkNames(Class<?> inside) {
        for (Method method : inside.getDeclaredMethods()) {
            check(inside + " " + method.getName() + " bears no public name", !names().contains(method.getName()));
        }
    }

    private static void checkSize(Class<?> of) {
        int fields = 0;
        for (Field field : of.getDeclaredFields()) {
            if (!Modifier.isStatic(field.getModifiers())) fields++;
            else check(field + " is final", Modifier.isFinal(field.getModifiers()));
        }
        check(of + " has twenty fields at most, not " + fields, fields <= 20);
    }

    private static Set<String> names() {
        Set<String> names = new TreeSet<>();
        for (String method : METHODS) names.add(method.substring(method.indexOf(' ') + 1, method.indexOf('(')));
        return names;
    }

    private static String signature(Method method) {
        StringBuilder s = new StringBuilder(method.getReturnType() + " " + method.getName() + "(");
        for (Class<?> type : method.getParameterTypes()) s.append(s.charAt(s.length() - 1) == '(' ? "" : ",").append(type);
        return s.append(')').toString();
    }

    private static void checkFields(Class<?> face) {
        Set<String> got = new TreeSet<>();
        for (Field field : face.getDeclaredFields()) {
            int m = field.getModifiers();
            if (!Modifier.isPrivate(m)) {
                check(field + " is a public int constant", m == (Modifier.PUBLIC | Modifier.STATIC | Modifier.FINAL)
                        && field.getType() == int.class);
                got.add(field.getName());
            }
        }
        check("the constants, not " + got, got.equals(new TreeSet<>(Set.of(CONSTANTS))));
    }
}
