import java.lang.reflect.Constructor;
import java.lang.reflect.Field;
import java.lang.reflect.Method;
import java.lang.reflect.Modifier;
import java.util.ArrayList;
import java.util.Arrays;
import java.util.List;
import java.util.TreeSet;

/** The public face: just what the document lists, with just the exceptions that it names, and nothing beside it. */
public final class FaceTest {
    /** A line is the type and the name of a method, its arguments' types, and I for each IndexOutOfBounds-, A for each IllegalArgumentException. */
    private static final String FACE = """
        int lay(int,int) I A
        int put(int,int,int) I A
        int at(int,int) I
        int part(int,int,int,int) I A
        int set(int,int,int) I A
        int get(int,int) I
        int length(int) I
        boolean isEmpty(int) I
        String text(int) I
        String back(int) I
        int indexOf(int,int) I A
        int lastIndexOf(int,int) I A
        boolean has(int,int) I A
        int often(int,int) I A
        boolean hasAll(int,int) I
        boolean areApart(int,int) I
        int indexOfAll(int,int) I
        boolean areEqual(int,int) I
        int code(int) I
        String walk(int,int,int,boolean) I A
        int sum(int) I
        int walkSet(int,int,int,int,boolean) I A
        int replaceAll(int,int,int) I A
        int replaceOld(int,int,int) I A
        int fill(int,int) I A
        int sort(int,boolean) I
        int reverse(int) I
        int rotate(int,int) I A
        int swap(int,int,int) I
        int add(int,int) I A
        int addAt(int,int,int) I A
        int addAll(int,int) I
        int remove(int,int) I
        int removeValue(int,int) I A
        int removeAll(int,int) I
        int retainAll(int,int) I
        int removeIf(int,int,int) I A
        int clear(int) I
        int walkChange(int,int,int) I A
        int knock()
        int house(int) A
        int rowOf(int) A
        int begin(int) A
        boolean isSound()
        long digest()
        """;

    public static void main(String[] args) {
        theClass();
        theConstructor();
        theMethods();
        nothingElseIsSeen();
        noPrivateMethodHasANameOfTheFace();
        theClassItselfThrows();
        Due.end();
    }

    private static void theClass() {
        Due.is("the class is public and final", "public final", () -> Modifier.toString(Twinrow.class.getModifiers()));
        Due.is("the class extends no other", Object.class, Twinrow.class::getSuperclass);
        Due.is("the class has no package", "", Twinrow.class::getPackageName);
    }

    private static void theConstructor() {
        Constructor<?>[] constructors = Twinrow.class.getDeclaredConstructors();
        Due.is("one constructor", 1, () -> constructors.length);
        Due.is("the constructor", "public Twinrow()", () -> constructors[0].toString());
    }

    private static void theMethods() {
        List<String> want = new ArrayList<>(Arrays.asList(FACE.split("\n")));
        List<String> got = new ArrayList<>();
        for (Method method : Twinrow.class.getDeclaredMethods()) {
            if (Modifier.isPublic(method.getModifiers())) {
                got.add(line(method));
                Due.is("no more than public: " + method.getName(), "public", () -> Modifier.toString(method.getModifiers()));
            }
        }
        want.sort(null);
        got.sort(null);
        Due.is("the methods", want, () -> got);
    }

    private static String line(Method method) {
        StringBuilder line = new StringBuilder(method.getReturnType().getSimpleName());
        String arguments = Arrays.toString(Arrays.stream(method.getParameterTypes()).map(Class::getSimpleName).toArray());
        line.append(' ').append(method.getName());
        line.append(arguments.replace("[", "(").replace("]", ")").replace(" ", ""));
        for (Class<?> thrown : method.getExceptionTypes()) {
            line.append(thrown == IndexOutOfBoundsException.class ? " I"
                : thrown == IllegalArgumentException.class ? " A" : " " + thrown.getName());
        }
        return line.toString();
    }

    private static void nothingElseIsSeen() {
        for (Method method : Twinrow.class.getDeclaredMethods()) {
            int modifiers = method.getModifiers();
            Due.is("public or private: " + method, true, () -> Modifier.isPublic(modifiers) || Modifier.isPrivate(modifiers));
        }
        for (Field field : Twinrow.class.getDeclaredFields()) {
            int modifiers = field.getModifiers();
            Due.is("private: " + field, true, () -> Modifier.isPrivate(modifiers));
            Due.is("final, if it is static: " + field, true, () -> !Modifier.isStatic(modifiers) || Modifier.isFinal(modifiers));
        }
        for (Class<?> inside : Twinrow.class.getDeclaredClasses()) {
            int modifiers = inside.getModifiers();
            Due.is("static: " + inside, true, () -> Modifier.isStatic(modifiers));
            Due.is("not public or protected: " + inside, true, () -> !Modifier.isPublic(modifiers) && !Modifier.isProtected(modifiers));
        }
    }

    private static void noPrivateMethodHasANameOfTheFace() {
        TreeSet<String> face = new TreeSet<>();
        for (Method method : Twinrow.class.getMethods()) {
            face.add(method.getName());
        }
        List<Class<?>> classes = new ArrayList<>(Arrays.asList(Twinrow.class.getDeclaredClasses()));
        classes.add(Twinrow.class);
        for (Class<?> one : classes) {
            for (Method method : one.getDeclaredMethods()) {
                Due.is("a name of its own: " + method, true,
                    () -> Modifier.isPublic(method.getModifiers()) || !face.contains(method.getName()));
            }
        }
    }

    /** An exception comes from a throw of the class, neither from the library nor with a text of the machine. */
    private static void theClassItselfThrows() {
        Twinrow rows = Limits.sample();
        isThrownByTheClass("there is no such row", () -> rows.put(-1, 0, 0));
        isThrownByTheClass("there is no such list", () -> rows.text(Integer.MAX_VALUE));
        isThrownByTheClass("there is no such list", () -> rows.text(6));
        isThrownByTheClass("there is no such part", () -> rows.part(7, 0, 0, 0));
        isThrownByTheClass("there is no such place", () -> rows.get(3, 7));
        isThrownByTheClass("the number is not let", () -> rows.lay(0, -1));
        isThrownByTheClass("the number is not let", () -> rows.rotate(1, 100));
        isThrownByTheClass("the number is not let", () -> rows.house(4));
    }

    private static void isThrownByTheClass(String text, Due.Call call) {
        try {
            call.answer();
            Due.same("a call that is not let", "an exception", "none");
        } catch (IndexOutOfBoundsException | IllegalArgumentException thrown) {
            Due.same("the exception's text", text, thrown.getMessage());
            Due.same("the exception's class", "Twinrow", thrown.getStackTrace()[0].getClassName());
        }
    }
}
