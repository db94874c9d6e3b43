import java.lang.reflect.Constructor;
import java.lang.reflect.Field;
import java.lang.reflect.Method;
import java.lang.reflect.Modifier;
import java.util.HashSet;
import java.util.List;
import java.util.Set;

/** The public face is the document's and nothing more (rule 1 of LANGUAGE.md). */
public final class FaceTest {
    private static final List<String> FACE = List.of(
        "int state(int)", "int place(int)", "boolean row(int,int,int)", "boolean purse(int)", "boolean act(int,int,int)",
        "int days(int)", "int feed(int,int,int,int,int)", "boolean end(int)", "int text(int)", "int fault(int)",
        "int of(int,int)", "int creeps(int,int)", "int room(int,int)", "int book(int,int)", "int goes(int,int)",
        "int shape(int,int)", "int turned(int,int)", "int square(int,int)", "int fit(int,int,int)",
        "int walk(int,int,int,int)", "int sums(int,int)", "int buys(int,int)", "int tour(int,int)", "int vouched(int)",
        "int lie(int,int,int)", "int feet(int)", "int game(int)", "boolean undo()", "boolean image(boolean)", "int look(int)");

    public static void main(String[] args) {
        Class<?> face = DryPlaces.class;
        Due.is("public final", Modifier.isPublic(face.getModifiers()) && Modifier.isFinal(face.getModifiers()), true);
        Due.is("no package", face.getPackageName().isEmpty(), true);
        Set<String> seen = new HashSet<>();
        Set<String> names = new HashSet<>();
        for (Method method : face.getDeclaredMethods()) {
            if (Modifier.isPublic(method.getModifiers())) {
                seen.add(describe(method));
                names.add(method.getName());
            } else {
                Due.is("private: " + method, Modifier.isPrivate(method.getModifiers()), true);
            }
        }
        for (String method : FACE) {
            Due.is("there: " + method, seen.contains(method), true);
        }
        Due.is("no more public methods", seen.size(), FACE.size());
        for (Field field : face.getDeclaredFields()) {
            boolean isNone = field.getName().equals("NONE");
            int needed = isNone ? Modifier.PUBLIC | Modifier.STATIC | Modifier.FINAL : Modifier.PRIVATE;
            Due.is("field " + field, (field.getModifiers() & needed) == needed, true);
        }
        for (Constructor<?> constructor : face.getDeclaredConstructors()) {
            Due.is("constructor", Modifier.isPublic(constructor.getModifiers()) && constructor.getParameterCount() == 0, true);
        }
        for (Class<?> inside : face.getDeclaredClasses()) {
            Due.is("private, static: " + inside, Modifier.isPrivate(inside.getModifiers()) && Modifier.isStatic(inside.getModifiers()), true);
            for (Method method : inside.getDeclaredMethods()) {
                Due.is("a name of the face: " + method, names.contains(method.getName()), false);
            }
        }
        for (Method method : face.getDeclaredMethods()) {
            boolean isPrivate = Modifier.isPrivate(method.getModifiers());
            Due.is("a name of the face: " + method, isPrivate && names.contains(method.getName()), false);
        }
        Due.close();
    }

    private static String describe(Method method) {
        StringBuilder to = new StringBuilder(method.getReturnType().getName()).append(' ').append(method.getName()).append('(');
        for (Class<?> parameter : method.getParameterTypes()) {
            to.append(to.charAt(to.length() - 1) == '(' ? "" : ",").append(parameter.getName());
        }
        return to.append(Modifier.isStatic(method.getModifiers()) ? ") static" : ")").toString();
    }
}
