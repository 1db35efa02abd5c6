import java.lang.reflect.Constructor;
import java.lang.reflect.Field;
import java.lang.reflect.Method;
import java.lang.reflect.Modifier;
import java.util.Set;
import java.util.TreeSet;

/** The public face of the document, and that nothing else can be seen from outside. */
public final class FaceTest {
    private static final Check CHECK = new Check("FaceTest");
    private static final Set<String> METHODS = Set.of(
        "boolean write(char)", "int file()", "int line()", "boolean view(int,int,int)",
        "int add(int,int,int,boolean)", "int edit(int,int,int)", "int remove(int,int,int)",
        "boolean store(int,int,int)", "boolean reopen(int,int,int)", "boolean revert(int,int)",
        "int sync(int,int)", "int join(int,int,int,int)", "int resolve(int,int,int)", "int submit(int,int)",
        "int crash(int)", "int journal()", "int changes()", "int joins()", "int head(int)",
        "int revision(int,int,int)", "int have(int,int)", "int text(int,int)", "int opened(int,int,int)",
        "int joined(int,int)", "boolean mapped(int,int)", "int place(int,int,int)", "int where(int)");

    public static void main(String[] args) {
        Class<DepotServer> face = DepotServer.class;
        CHECK.due("NONE", DepotServer.NONE, -1);
        CHECK.due("the class is public and final", face.getModifiers(), Modifier.PUBLIC | Modifier.FINAL);
        methods(face);
        fields(face);
        constructors(face);
        for (Class<?> inside : face.getDeclaredClasses()) {
            CHECK.due(inside + " is static", Modifier.isStatic(inside.getModifiers()), true);
            CHECK.due(inside + " is public", Modifier.isPublic(inside.getModifiers()), false);
        }
        CHECK.end();
    }

    private static void methods(Class<?> face) {
        Set<String> found = new TreeSet<>();
        Set<String> names = new TreeSet<>();
        for (Method method : face.getMethods()) {
            names.add(method.getName());
        }
        for (Method method : face.getDeclaredMethods()) {
            if (Modifier.isPublic(method.getModifiers())) {
                found.add(signature(method));
            } else {
                CHECK.due(method + " is private", Modifier.isPrivate(method.getModifiers()), true);
                CHECK.due(method + " has a public one's name", names.contains(method.getName()), false);
            }
        }
        CHECK.due("the public methods are " + found, found.equals(new TreeSet<>(METHODS)), true);
    }

    private static String signature(Method method) {
        StringBuilder text = new StringBuilder(method.getReturnType() + " " + method.getName() + "(");
        for (Class<?> type : method.getParameterTypes()) {
            text.append(text.charAt(text.length() - 1) == '(' ? "" : ",").append(type);
        }
        return text.append(')').toString();
    }

    private static void fields(Class<?> face) {
        for (Field field : face.getDeclaredFields()) {
            int seen = field.getName().equals("NONE") ? Modifier.PUBLIC : Modifier.PRIVATE;
            CHECK.due(field + " is seen as it should", field.getModifiers() & ~Modifier.STATIC & ~Modifier.FINAL, seen);
            if (Modifier.isStatic(field.getModifiers())) {
                CHECK.due(field + " is final", Modifier.isFinal(field.getModifiers()), true);
            }
        }
    }

    private static void constructors(Class<?> face) {
        Constructor<?>[] all = face.getDeclaredConstructors();
        CHECK.due("how many constructors", all.length, 1);
        CHECK.due("the constructor is public", all[0].getModifiers(), Modifier.PUBLIC);
        CHECK.due("its parameters", all[0].getParameterCount(), 0);
    }
}
