import java.lang.reflect.Constructor;
import java.lang.reflect.Field;
import java.lang.reflect.Member;
import java.lang.reflect.Method;
import java.lang.reflect.Modifier;
import java.util.Set;
import java.util.TreeSet;

/** The class has the members of the document's public face, and shows no other. */
public final class FaceTest {
    private static final String[] FACE = {
        "const int ANY", "const int CUT", "const int NONE", "const int PLANNED", "const int SHOT",
        "new()",
        "int scene(int,int) IllegalArgumentException IllegalStateException",
        "int plays(int,int,int) IndexOutOfBoundsException IllegalArgumentException IllegalStateException",
        "int uses(int,int,int,int) IndexOutOfBoundsException IllegalArgumentException IllegalStateException",
        "int cut(int) IndexOutOfBoundsException IllegalStateException",
        "int swap(int,int) IllegalArgumentException",
        "int permit(int,int,int,int) IllegalArgumentException IllegalStateException",
        "int revoke(int) IndexOutOfBoundsException IllegalStateException",
        "boolean away(int,int,boolean) IndexOutOfBoundsException IllegalArgumentException",
        "int buy(int) IndexOutOfBoundsException IllegalStateException",
        "int clear()",
        "int mishap(int,int) IndexOutOfBoundsException IllegalArgumentException IllegalStateException",
        "int shoot() IllegalStateException",
        "int mend()",
        "int better()",
        "int least() IllegalStateException",
        "int today()",
        "int spent()",
        "int cost()",
        "int scenes()",
        "int stateOf(int) IndexOutOfBoundsException",
        "int dayOf(int) IndexOutOfBoundsException",
        "int sceneOn(int) IllegalArgumentException",
        "int refused()",
        "boolean isAllowed(int,int) IndexOutOfBoundsException IllegalArgumentException",
        "int ahead(int,int) IndexOutOfBoundsException",
        "int copies(int,int) IndexOutOfBoundsException IllegalArgumentException",
        "int growth(int) IndexOutOfBoundsException",
    };
    private static int wrong = 0;

    private static void due(boolean holds, String what) {
        if (!holds) {
            wrong++;
            System.out.println("face: " + what);
        }
    }

    private static String names(Class<?>[] types, String between) {
        StringBuilder text = new StringBuilder();
        for (Class<?> type : types) {
            text.append(text.length() == 0 ? "" : between).append(type.getSimpleName());
        }
        return text.toString();
    }

    private static boolean isShown(Member member) {
        return !Modifier.isPrivate(member.getModifiers()) && !member.isSynthetic();
    }

    private static Set<String> shown() {
        Set<String> members = new TreeSet<>();
        for (Field field : BacklotPlanner.class.getDeclaredFields()) {
            if (isShown(field)) {
                int mods = field.getModifiers();
                boolean isConstant = mods == (Modifier.PUBLIC | Modifier.STATIC | Modifier.FINAL);
                members.add((isConstant ? "const " : "") + field.getType().getSimpleName() + " " + field.getName());
            }
        }
        for (Constructor<?> made : BacklotPlanner.class.getDeclaredConstructors()) {
            if (isShown(made)) {
                due(Modifier.isPublic(made.getModifiers()), "the constructor is not public");
                members.add("new(" + names(made.getParameterTypes(), ",") + ")");
            }
        }
        for (Method method : BacklotPlanner.class.getDeclaredMethods()) {
            if (isShown(method)) {
                due(method.getModifiers() == Modifier.PUBLIC, method.getName() + " is not plainly public");
                String thrown = names(method.getExceptionTypes(), " ");
                members.add(method.getReturnType().getSimpleName() + " " + method.getName() + "("
                    + names(method.getParameterTypes(), ",") + ")" + (thrown.isEmpty() ? "" : " " + thrown));
            }
        }
        return members;
    }

    private static void lookAtInnerClasses() {
        for (Class<?> inner : BacklotPlanner.class.getDeclaredClasses()) {
            int mods = inner.getModifiers();
            due(!Modifier.isPublic(mods) && !Modifier.isProtected(mods), inner + " is shown");
            due(Modifier.isStatic(mods), inner + " is not static");
        }
    }

    private static void lookAtPrivateNames() {
        Set<String> open = new TreeSet<>();
        for (Method method : BacklotPlanner.class.getDeclaredMethods()) {
            if (!Modifier.isPrivate(method.getModifiers())) {
                open.add(method.getName());
            }
        }
        for (Method method : BacklotPlanner.class.getDeclaredMethods()) {
            due(!Modifier.isPrivate(method.getModifiers()) || !open.contains(method.getName()),
                "a private method bears the name of the public " + method.getName());
        }
    }

    public static void main(String[] args) {
        due(BacklotPlanner.class.getModifiers() == (Modifier.PUBLIC | Modifier.FINAL), "the class is not public and final");
        Set<String> wanted = new TreeSet<>(Set.of(FACE));
        Set<String> got = shown();
        for (String member : wanted) {
            due(got.contains(member), "missing: " + member);
        }
        for (String member : got) {
            due(wanted.contains(member), "too much: " + member);
        }
        lookAtInnerClasses();
        lookAtPrivateNames();
        due(BacklotPlanner.NONE == -1 && BacklotPlanner.ANY == -1, "NONE and ANY are -1");
        due(BacklotPlanner.PLANNED == 0 && BacklotPlanner.SHOT == 1 && BacklotPlanner.CUT == 2, "PLANNED, SHOT, CUT are 0, 1, 2");
        System.out.println(wrong == 0 ? "the face is as due" : wrong + " faults in the face");
        if (wrong != 0) {
            System.exit(1);
        }
    }
}
