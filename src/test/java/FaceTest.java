import java.lang.reflect.Constructor;
import java.lang.reflect.Field;
import java.lang.reflect.Member;
import java.lang.reflect.Method;
import java.lang.reflect.Modifier;
import java.util.Arrays;
import java.util.HashSet;
import java.util.Set;
import java.util.TreeSet;

/** The public face is the document's, and LANGUAGE.md's rules 1 and 11 on members hold. */
public final class FaceTest {
    private static final String[] FACE = {
        "int UNKNOWN", "int OUTSIDE", "int STATE", "int FULL", "int NONE", "long LOST",
        "int valley(int,int,int,int)", "int ofBell(int,int)", "int ofRope(int,int)", "int tie(int,boolean)",
        "int span(int)", "int pull(int,int)", "int undo(int)", "int rings(int)", "int ringsAt(int,int)",
        "int peal(int)", "int stops()", "int fewest(int)", "int still(int)", "int hung(int)", "int cut()",
        "int reading(int,int,boolean)", "int back(int)", "int first()", "int gone()", "long sneezes(int)",
        "int tune(int,int,int,int)", "int sheet(int,int,int)", "int lose(int)", "int put(int,int,int)",
        "long cell(int,int,int)", "int copy(int,int,int,int,int)", "int tell(int)", "int hail(int)",
        "int as(int,int)", "int trace()", "int fault()", "int many(int)"};

    private static final Check c = new Check("FaceTest");

    public static void main(String[] args) {
        Class<?> x = RopedBells.class;
        c.due("public and final", x.getModifiers(), Modifier.PUBLIC | Modifier.FINAL);
        Set<String> publicNames = new HashSet<>();
        Set<String> face = new TreeSet<>();
        for (Method m : x.getDeclaredMethods()) {
            isPublicOrPrivate(m);
            if (Modifier.isPublic(m.getModifiers())) {
                publicNames.add(m.getName());
                c.due(m + " is static", Modifier.isStatic(m.getModifiers()) ? 1 : 0, 0);
                face.add(m.getReturnType() + " " + m.getName() + "("
                    + String.join(",", Arrays.stream(m.getParameterTypes()).map(Class::getName).toList()) + ")");
            }
        }
        for (Field f : x.getDeclaredFields()) {
            isPublicOrPrivate(f);
            if (Modifier.isPublic(f.getModifiers())) {
                c.due(f + " is a constant", f.getModifiers(), Modifier.PUBLIC | Modifier.STATIC | Modifier.FINAL);
                face.add(f.getType() + " " + f.getName());
            }
        }
        sameAsDocument(face);
        c.due("constructors", x.getDeclaredConstructors().length, 1);
        for (Constructor<?> k : x.getDeclaredConstructors()) {
            c.due("the constructor is public", k.getModifiers(), Modifier.PUBLIC);
            c.due("the constructor takes nothing", k.getParameterCount(), 0);
        }
        insideClasses(x, publicNames);
        c.end();
    }

    private static void isPublicOrPrivate(Member m) {
        boolean is = Modifier.isPublic(m.getModifiers()) || Modifier.isPrivate(m.getModifiers());
        c.due(m + " is public or private", is ? 1 : 0, 1);
    }

    private static void sameAsDocument(Set<String> face) {
        for (String member : FACE) {
            c.due("there is " + member, face.remove(member) ? 1 : 0, 1);
        }
        c.due("no more than the document's " + face, face.size(), 0);
    }

    private static void insideClasses(Class<?> x, Set<String> publicNames) {
        privateNames(x, publicNames);
        c.due("some twelve classes", x.getDeclaredClasses().length <= 13 ? 1 : 0, 1);
        for (Class<?> inside : x.getDeclaredClasses()) {
            c.due(inside + " is static", Modifier.isStatic(inside.getModifiers()) ? 1 : 0, 1);
            c.due(inside + " is public or protected", inside.getModifiers() & (Modifier.PUBLIC | Modifier.PROTECTED), 0);
            privateNames(inside, publicNames);
        }
    }

    private static void privateNames(Class<?> x, Set<String> publicNames) {
        int fields = 0;
        for (Field f : x.getDeclaredFields()) {
            fields += Modifier.isStatic(f.getModifiers()) ? 0 : 1;
        }
        c.due(x + " has some twenty fields at most", fields <= 22 ? 1 : 0, 1);
        for (Method m : x.getDeclaredMethods()) {
            c.due(m + " has seven parameters at most", m.getParameterCount() <= 7 ? 1 : 0, 1);
            boolean hidden = Modifier.isPrivate(m.getModifiers());
            c.due(m + " bears a public one's name", hidden && publicNames.contains(m.getName()) ? 1 : 0, 0);
        }
    }
}
