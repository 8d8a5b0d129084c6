import java.lang.reflect.Constructor;
import java.lang.reflect.Field;
import java.lang.reflect.Method;
import java.lang.reflect.Modifier;
import java.util.ArrayList;
import java.util.HashSet;
import java.util.List;
import java.util.Set;
import java.util.TreeSet;

/** The document's face and no more; names, fields and parameters as LANGUAGE.md wants them. */
public final class FaceTest {
    private static final String[] FACE = {
        "int feed(int,int,int,int,int)", "int text(int)", "int fault(int)", "int line(int,int)", "int place(int)",
        "int reaches(int,int)", "int move(int)", "boolean pass()", "int undo()", "int written(int)", "int now(int)",
        "int pair(int)", "int outcome()", "int wins(int,int)", "int answer(int)", "int exchange(int)",
        "int played(int)", "int verified(int)", "int full(int)", "int positions(int)", "int wall(int)",
        "int road(int)", "int lucky(int)", "int luckyWith(int)", "int trees()", "int treesWith(int)", "int idle(int)",
        "int ifLine(int,int)", "int ifMore(int,int)", "int ifEnds(int,int)", "int lacks()", "int cutAnswer(int)",
        "int verifiedForCut(int)", "int pivots(int)", "int needed()", "int walls(int)", "int set(int)",
        "int alike(int,int)", "int strong(int)", "int forests(int)", "int duel(int)", "int chance(int,int)",
        "int count(int)"};

    private static final Checks CHECKS = new Checks();

    public static void main(String[] args) {
        CHECKS.about("face");
        CHECKS.due("public and final", Modifier.PUBLIC | Modifier.FINAL, SwitchGame.class.getModifiers());
        CHECKS.due("NONE", -1, SwitchGame.NONE);
        Set<String> publicNames = publicMethods();
        publicFieldsAndConstructors();
        List<Class<?>> classes = new ArrayList<>(List.of(SwitchGame.class.getDeclaredClasses()));
        CHECKS.due("at most twelve classes", 1, classes.size() <= 11 ? 1 : 0);
        for (Class<?> inside : classes) {
            CHECKS.about(inside.getSimpleName());
            CHECKS.due("private static", Modifier.PRIVATE | Modifier.STATIC,
                    inside.getModifiers() & (Modifier.PRIVATE | Modifier.STATIC));
        }
        classes.add(SwitchGame.class);
        for (Class<?> each : classes) {
            members(each, publicNames);
        }
        CHECKS.end("FaceTest");
    }

    private static Set<String> publicMethods() {
        Set<String> found = new TreeSet<>();
        Set<String> names = new HashSet<>();
        for (Method method : SwitchGame.class.getDeclaredMethods()) {
            if (!Modifier.isPrivate(method.getModifiers())) {
                List<String> types = new ArrayList<>();
                for (Class<?> type : method.getParameterTypes()) {
                    types.add(type.getSimpleName());
                }
                found.add(method.getReturnType().getSimpleName() + " " + method.getName() + "("
                        + String.join(",", types) + ")");
                names.add(method.getName());
                CHECKS.due(method.getName() + " is public and no more", Modifier.PUBLIC, method.getModifiers());
            }
        }
        Set<String> due = new TreeSet<>(List.of(FACE));
        CHECKS.due("methods of the face", 1, due.equals(found) ? 1 : 0);
        return names;
    }

    private static void publicFieldsAndConstructors() {
        for (Field field : SwitchGame.class.getDeclaredFields()) {
            boolean isPublic = !Modifier.isPrivate(field.getModifiers());
            CHECKS.due(field.getName(), field.getName().equals("NONE") ? 1 : 0, isPublic ? 1 : 0);
        }
        Constructor<?>[] constructors = SwitchGame.class.getDeclaredConstructors();
        CHECKS.due("one constructor", 1, constructors.length);
        CHECKS.due("without parameters", 0, constructors[0].getParameterCount());
        CHECKS.due("public", Modifier.PUBLIC, constructors[0].getModifiers());
    }

    private static void members(Class<?> each, Set<String> publicNames) {
        CHECKS.about(each.getSimpleName());
        int own = 0;
        for (Field field : each.getDeclaredFields()) {
            if (Modifier.isStatic(field.getModifiers())) {
                CHECKS.due(field.getName() + " is final", 1, Modifier.isFinal(field.getModifiers()) ? 1 : 0);
            } else {
                own++;
            }
        }
        CHECKS.due("at most twenty fields", 1, own <= 20 ? 1 : 0);
        for (Method method : each.getDeclaredMethods()) {
            CHECKS.due(method.getName() + ": at most seven parameters", 1, method.getParameterCount() <= 7 ? 1 : 0);
            if (!Modifier.isPublic(method.getModifiers())) {
                CHECKS.due(method.getName() + ": no name of the face", 0,
                        publicNames.contains(method.getName()) ? 1 : 0);
            }
        }
    }
}
