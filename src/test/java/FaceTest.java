import java.lang.reflect.Constructor;
import java.lang.reflect.Field;
import java.lang.reflect.Method;
import java.lang.reflect.Modifier;
import java.util.Arrays;
import java.util.List;
import java.util.TreeSet;
import java.util.stream.Collectors;

/** The face of the class is the document's, and nothing else of it can be seen from outside. */
public final class FaceTest {
    private static final List<String> FACE = List.of(
            "int feed(int)", "int caseOf()", "int court(int,int)", "int point(int,int)", "int kind(int,int,int)",
            "int lowest(int,int,int)", "int set(int,int)", "int back()", "int down(int,int)", "int turns(int)",
            "int costs(int)", "int up()", "int round(int)", "int appeals(int)", "int press(int)",
            "int turnsBy(int,int)", "int standsFast()", "int survive(int)", "int fits(int)", "int first(int)",
            "int apart(int,int,int)", "int treaty(int,int)", "int share(int)", "long bedtime(int,int)", "int order()",
            "int bestOrder(int)", "int needed(int)", "int cheapest()", "int biggest(int)", "int swing()",
            "int rounds()", "int worst(int,int)", "int same()", "int dead()", "int flip(int)", "int margin()",
            "int beats()", "int commute(int,int)", "int again(int,int)", "int bestLowest(int)", "int peak(int)",
            "int fullStake()", "int heard()", "int lastSay()", "int row(int)", "int judge()", "int clear()",
            "int lots(int,int,int)", "int image()", "int restore()", "int count(int)");

    private static String told(Method m) {
        return m.getReturnType().getName() + " " + m.getName() + Arrays.stream(m.getParameterTypes())
                .map(Class::getName).collect(Collectors.joining(",", "(", ")"));
    }

    public static void main(String[] args) {
        Check check = new Check();
        TreeSet<String> seen = new TreeSet<>();
        TreeSet<String> publicNames = new TreeSet<>();
        for (Method m : AppealsDown.class.getDeclaredMethods()) {
            if (!Modifier.isPrivate(m.getModifiers())) {
                check.due("is public: " + m, m.getModifiers(), Modifier.PUBLIC);
                seen.add(told(m));
                publicNames.add(m.getName());
            }
        }
        check.due("methods of the face", seen.equals(new TreeSet<>(FACE)) ? 1 : 0, 1);
        check.due("the class", AppealsDown.class.getModifiers(), Modifier.PUBLIC | Modifier.FINAL);
        Constructor<?>[] constructors = AppealsDown.class.getDeclaredConstructors();
        check.due("constructors", constructors.length, 1);
        check.due("its parameters", constructors[0].getParameterCount(), 0);
        check.due("it is public", constructors[0].getModifiers(), Modifier.PUBLIC);
        for (Field f : AppealsDown.class.getDeclaredFields()) {
            check.due("is private: " + f, Modifier.isPrivate(f.getModifiers()) ? 1 : 0, 1);
        }
        for (Method m : AppealsDown.class.getDeclaredMethods()) {
            if (Modifier.isPrivate(m.getModifiers())) {
                check.due("a name of its own: " + m, publicNames.contains(m.getName()) ? 1 : 0, 0);
            }
        }
        for (Class<?> inside : AppealsDown.class.getDeclaredClasses()) {
            check.due("is private and static: " + inside, inside.getModifiers() & (Modifier.PRIVATE | Modifier.STATIC),
                    Modifier.PRIVATE | Modifier.STATIC);
            for (Method m : inside.getDeclaredMethods()) {
                check.due("a name of its own: " + m, publicNames.contains(m.getName()) ? 1 : 0, 0);
            }
        }
        check.end("FaceTest");
    }
}
