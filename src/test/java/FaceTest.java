import java.lang.reflect.Constructor;
import java.lang.reflect.Executable;
import java.lang.reflect.Field;
import java.lang.reflect.Member;
import java.lang.reflect.Method;
import java.lang.reflect.Modifier;
import java.util.ArrayList;
import java.util.HashSet;
import java.util.List;
import java.util.NoSuchElementException;
import java.util.Set;

/** The public face, member by member; and of LANGUAGE.md what reflection can see. */
public final class FaceTest {
    /** Each line of the face, with the number of the promise that it is of. */
    private static final String[] FACE = {
        "1 public static final int NONE = -1;",
        "1 public WatchHouse();",
        "2 public int feed(int a, int b, int c, int d, int e);",
        "3 public boolean end(int n);",
        "4 public int rules();",
        "5 public int fault();",
        "6 public int place();",
        "7 public int take();",
        "8 public boolean pass(int time);",
        "9 public int count(int what);",
        "10 public int alert(int i, int what) throws NoSuchElementException;",
        "11 public int key(int i, int k, int what) throws NoSuchElementException;",
        "12 public int rule(int r, int what) throws NoSuchElementException;",
        "13 public int event(int i, int what) throws NoSuchElementException;",
        "14 public int pack(int i) throws NoSuchElementException;",
        "15 public int octet(int k) throws NoSuchElementException;",
    };

    public static void main(String[] args) {
        theClass();
        eachMember();
        noOtherMember();
        namesOfPrivateMethods();
        classesInside();
        Kit.finish("FaceTest");
    }

    private static void theClass() {
        Kit.sentence(1, "The public face", "public final class WatchHouse {");
        int modifiers = WatchHouse.class.getModifiers();
        Kit.due("public", Modifier.isPublic(modifiers), true);
        Kit.due("final", Modifier.isFinal(modifiers), true);
        Kit.due("without a package", WatchHouse.class.getPackageName().isEmpty(), true);
        Kit.due("below Object alone", WatchHouse.class.getSuperclass() == Object.class, true);
        Kit.due("interfaces", WatchHouse.class.getInterfaces().length, 0);
    }

    private static void eachMember() {
        Set<String> visible = visibleMembers();
        for (String line : FACE) {
            int blank = line.indexOf(' ');
            String words = line.substring(blank + 1);
            Kit.sentence(Integer.parseInt(line.substring(0, blank)), "The public face", words);
            Kit.due(words, visible.contains(withoutNames(words)), true);
        }
    }

    private static void noOtherMember() {
        Kit.sentence(1, "The public face", "public final class WatchHouse {");
        Kit.due("members that are not private", visibleMembers().size(), FACE.length);
    }

    /** A line of the face without the names of parameters, and without the value of a constant. */
    private static String withoutNames(String words) {
        return words.replaceAll("int [a-z]+(?=[,)])", "int").replaceAll(" = .*;|;", "");
    }

    private static Set<String> visibleMembers() {
        Set<String> members = new HashSet<>();
        for (Field field : WatchHouse.class.getDeclaredFields()) {
            if (isVisible(field)) {
                members.add(Modifier.toString(field.getModifiers()) + " " + field.getType().getSimpleName() + " "
                        + field.getName());
            }
        }
        for (Constructor<?> made : WatchHouse.class.getDeclaredConstructors()) {
            if (isVisible(made)) {
                members.add(Modifier.toString(made.getModifiers()) + " WatchHouse" + behindName(made));
            }
        }
        for (Method method : WatchHouse.class.getDeclaredMethods()) {
            if (isVisible(method)) {
                members.add(Modifier.toString(method.getModifiers()) + " " + method.getReturnType().getSimpleName() + " "
                        + method.getName() + behindName(method));
            }
        }
        return members;
    }

    private static boolean isVisible(Member member) {
        return !Modifier.isPrivate(member.getModifiers()) && !member.isSynthetic();
    }

    private static String behindName(Executable call) {
        List<String> types = new ArrayList<>();
        for (Class<?> type : call.getParameterTypes()) {
            types.add(type.getSimpleName());
        }
        boolean told = List.of(call.getExceptionTypes()).contains(NoSuchElementException.class);
        return "(" + String.join(", ", types) + ")" + (told ? " throws NoSuchElementException" : "");
    }

    /** LANGUAGE.md, 1: no private method bears the name of a public one. */
    private static void namesOfPrivateMethods() {
        Set<String> face = new HashSet<>();
        for (Method method : WatchHouse.class.getDeclaredMethods()) {
            if (Modifier.isPublic(method.getModifiers())) {
                Kit.due("public methods of one name: " + method.getName(), face.add(method.getName()), true);
            }
        }
        for (Class<?> one : allClasses()) {
            for (Method method : one.getDeclaredMethods()) {
                boolean isFace = one == WatchHouse.class && Modifier.isPublic(method.getModifiers());
                Kit.due(one.getSimpleName() + "." + method.getName(), !isFace && face.contains(method.getName()), false);
            }
        }
    }

    private static List<Class<?>> allClasses() {
        List<Class<?>> all = new ArrayList<>(List.of(WatchHouse.class.getDeclaredClasses()));
        all.add(WatchHouse.class);
        return all;
    }

    /** LANGUAGE.md, 1, 5 and 11: classes inside, static fields, how many of each. */
    private static void classesInside() {
        Kit.due("some twelve classes", allClasses().size() <= 12, true);
        for (Class<?> one : allClasses()) {
            String name = one.getSimpleName();
            boolean inside = one != WatchHouse.class;
            Kit.due(name + " static", !inside || Modifier.isStatic(one.getModifiers()), true);
            Kit.due(name + " not public", inside && Modifier.isPublic(one.getModifiers()), false);
            int fields = 0;
            for (Field field : one.getDeclaredFields()) {
                boolean isStatic = Modifier.isStatic(field.getModifiers());
                Kit.due(name + "." + field.getName(), isStatic && !Modifier.isFinal(field.getModifiers()), false);
                fields += isStatic ? 0 : 1;
            }
            Kit.due(name + ": some twenty fields", fields <= 20, true);
            for (Method method : one.getDeclaredMethods()) {
                Kit.due(name + "." + method.getName() + ": seven parameters", method.getParameterCount() <= 7, true);
            }
        }
    }
}
