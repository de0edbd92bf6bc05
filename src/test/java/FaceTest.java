import java.lang.reflect.Member;
import java.lang.reflect.Method;
import java.lang.reflect.Modifier;
import java.util.Set;
import java.util.TreeSet;

/** The public face is the document's and no more. */
public final class FaceTest {
    private static final String[] FACE = {
        "int write(int,long)", "int wipe()", "int fault()", "int army()", "int about(int)", "int rank(int,int)",
        "int slip(int,int,int)", "long seed(long)", "int say(int)", "int minute()", "int bugle()", "int undo()",
        "long heard(int,int,int,boolean)", "int comes(int,int)", "int sure(int)", "int code(int)",
        "long twoOfThree(int,int,boolean)", "int help(int)", "int trace(int,int,boolean)", "int untrace()",
        "int fits()", "int told()", "int drill(int,int,int,int)", "int keep(int)", "int again(int)"};

    public static void main(String[] args) {
        Check.due("UNKNOWN", HearsayMarch.UNKNOWN, -1);
        Check.due("BAD", HearsayMarch.BAD, -2);
        Check.due("LATE", HearsayMarch.LATE, -3);
        Check.due("FULL", HearsayMarch.FULL, -4);
        Check.due("NONE", HearsayMarch.NONE, -9);
        Class<?> face = HearsayMarch.class;
        Check.due("public and final", face.getModifiers(), Modifier.PUBLIC | Modifier.FINAL);
        Check.due("constructors", face.getDeclaredConstructors().length, 1);
        Check.due("constants", openOnes(face.getDeclaredFields()), 5);
        Check.due("methods", openOnes(face.getDeclaredMethods()), FACE.length);
        Set<String> wanted = new TreeSet<>(Set.of(FACE));
        Set<String> names = new TreeSet<>();
        for (Method m : face.getDeclaredMethods()) {
            if (Modifier.isPublic(m.getModifiers())) {
                wanted.remove(shape(m));
                names.add(m.getName());
            }
        }
        Check.due("methods that are not there: " + wanted, wanted.size(), 0);
        for (Method m : face.getDeclaredMethods()) {
            boolean hidden = !Modifier.isPublic(m.getModifiers());
            Check.due("private " + m.getName(), hidden && names.contains(m.getName()) ? 1 : 0, 0);
        }
        for (Class<?> c : face.getDeclaredClasses()) {
            Check.due("static " + c, Modifier.isStatic(c.getModifiers()) ? 1 : 0, 1);
        }
        Check.end();
    }

    private static int openOnes(Member[] members) {
        int open = 0;
        for (Member m : members) {
            open += Modifier.isPrivate(m.getModifiers()) || m.isSynthetic() ? 0 : 1;
        }
        return open;
    }

    private static String shape(Method m) {
        StringBuilder all = new StringBuilder();
        for (Class<?> c : m.getParameterTypes()) {
            all.append(all.length() == 0 ? "" : ",").append(c.getName());
        }
        return m.getReturnType().getName() + " " + m.getName() + "(" + all + ")";
    }
}
