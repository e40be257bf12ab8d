import java.lang.reflect.Constructor;
import java.lang.reflect.Member;
import java.lang.reflect.Method;
import java.lang.reflect.Modifier;
import java.util.ArrayList;
import java.util.Arrays;
import java.util.Collections;
import java.util.List;

/** The public face is the document's, and nothing else of the class can be reached. */
public final class FaceTest {
    private static final String INDEX = "IndexOutOfBoundsException";
    private static final String ARGUMENT = "IllegalArgumentException";
    private static final String STATE = "IllegalStateException";

    public static void main(String[] args) {
        List<String> due = new ArrayList<>(List.of(
            "int addPlate(int int) " + ARGUMENT + " " + STATE,
            "int addFlaw(int int int int int int) " + INDEX + " " + ARGUMENT + " " + STATE,
            "int addPaper(int int) " + ARGUMENT + " " + STATE,
            "int print(int int int int) " + INDEX + " " + ARGUMENT + " " + STATE,
            "int setSheet(int int int int int) " + INDEX + " " + ARGUMENT + " " + STATE,
            "int tear(int int int) " + INDEX + " " + STATE,
            "int forge(int int int) " + INDEX + " " + ARGUMENT + " " + STATE,
            "int stamp(int int) " + INDEX,
            "boolean fits(int int int) " + INDEX + " " + ARGUMENT,
            "int fitting(int int int) " + INDEX,
            "int origin(int int) " + INDEX,
            "int mount(int int int) " + INDEX + " " + ARGUMENT + " " + STATE,
            "int release(int) " + INDEX + " " + STATE,
            "int at(int int) " + INDEX,
            "int advise(int) " + INDEX + " " + STATE,
            "int count(int) " + INDEX,
            "double reunited() ",
            "long digest() "));
        List<String> got = new ArrayList<>();
        List<String> names = new ArrayList<>();
        for (Method method : StampBureau.class.getDeclaredMethods()) {
            if (Modifier.isPublic(method.getModifiers())) {
                got.add(method.getReturnType() + " " + method.getName() + "(" + words(method.getParameterTypes()) + ") "
                    + words(method.getExceptionTypes()));
                Checks.due("not static: " + method, false, Modifier.isStatic(method.getModifiers()));
                names.add(method.getName());
            } else {
                isPrivate(method);
            }
        }
        Collections.sort(due);
        Collections.sort(got);
        Checks.due("the methods", due.toString(), got.toString());
        for (Method method : StampBureau.class.getDeclaredMethods()) {
            if (!Modifier.isPublic(method.getModifiers())) {
                Checks.due("no public method's name: " + method, false, names.contains(method.getName()));
            }
        }
        Arrays.stream(StampBureau.class.getDeclaredFields()).forEach(FaceTest::isPrivate);
        Constructor<?>[] constructors = StampBureau.class.getDeclaredConstructors();
        Checks.due("constructors", 1, constructors.length);
        Checks.due("the constructor", "public StampBureau()", constructors[0].toString());
        Checks.due("the class", "public final", Modifier.toString(StampBureau.class.getModifiers()));
        Checks.end();
    }

    private static void isPrivate(Member member) {
        Checks.due("private: " + member, true, Modifier.isPrivate(member.getModifiers()));
    }

    private static String words(Class<?>[] types) {
        List<String> words = new ArrayList<>();
        for (Class<?> type : types) {
            words.add(type.getSimpleName());
        }
        return String.join(" ", words);
    }
}
