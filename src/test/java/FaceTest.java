import java.lang.reflect.Field;
import java.lang.reflect.Member;
import java.lang.reflect.Method;
import java.lang.reflect.Modifier;
import java.util.Set;
import java.util.TreeSet;

/** The class has the document's public face and no other member that can be seen from outside. */
public final class FaceTest {
    private static final Set<String> METHODS = Set.of(
            "public int LearnDesk.arrow(int,int,int)",
            "public int LearnDesk.good(int,boolean)",
            "public int LearnDesk.ask(int)",
            "public int LearnDesk.kinds()",
            "public int LearnDesk.kind(int)",
            "public int LearnDesk.first(int)",
            "public int LearnDesk.next(int,int)",
            "public int LearnDesk.isGood(int)",
            "public int LearnDesk.difference(int,int)");
    private static final Set<Class<?>> FIELD_TYPES = Set.of(
            int.class, long.class, short.class, byte.class, char.class, boolean.class,
            int[].class, long[].class, short[].class, byte[].class, char[].class, boolean[].class);
    private static final Checks c = new Checks();

    public static void main(String[] args) throws ReflectiveOperationException {
        int ofClass = LearnDesk.class.getModifiers();
        c.holds("the class is public and final", ofClass == (Modifier.PUBLIC | Modifier.FINAL));
        c.holds("the class extends nothing", LearnDesk.class.getSuperclass() == Object.class);
        c.due("interfaces", LearnDesk.class.getInterfaces().length, 0);
        c.due("type parameters", LearnDesk.class.getTypeParameters().length, 0);
        c.due("constructors", LearnDesk.class.getDeclaredConstructors().length, 1);
        c.holds("the constructor is public", Modifier.isPublic(LearnDesk.class.getDeclaredConstructor().getModifiers()));
        c.due("nested classes", LearnDesk.class.getDeclaredClasses().length, 0);
        methods();
        fields();
        c.end("FaceTest");
    }

    private static void methods() {
        Set<String> seen = new TreeSet<>();
        Set<String> publicNames = new TreeSet<>();
        for (Method method : LearnDesk.class.getDeclaredMethods()) {
            if (!isPrivate(method)) {
                seen.add(method.toString());
                publicNames.add(method.getName());
            }
        }
        c.holds("the methods seen from outside are the document's: " + seen, seen.equals(METHODS));
        for (Method method : LearnDesk.class.getDeclaredMethods()) {
            boolean takesName = isPrivate(method) && publicNames.contains(method.getName());
            c.holds("no private method has a public one's name: " + method.getName(), !takesName);
        }
    }

    private static void fields() {
        for (Field field : LearnDesk.class.getDeclaredFields()) {
            c.holds(field.getName() + " is private", isPrivate(field));
            c.holds(field.getName() + " has a type of the rules", FIELD_TYPES.contains(field.getType()));
            if (Modifier.isStatic(field.getModifiers())) {
                boolean whole = field.getType() == int.class || field.getType() == long.class;
                c.holds(field.getName() + " is a constant", whole && Modifier.isFinal(field.getModifiers()));
            }
        }
    }

    private static boolean isPrivate(Member member) {
        return Modifier.isPrivate(member.getModifiers());
    }
}
