import java.lang.reflect.Constructor;
import java.lang.reflect.Field;
import java.lang.reflect.Method;
import java.lang.reflect.Modifier;
import java.util.Set;
import java.util.TreeSet;

/** The public face of the document, and the rules of LANGUAGE.md that the compiled class shows. */
public final class FaceTest {
    private static final Set<Class<?>> TYPES = Set.of(int.class, long.class, short.class, byte.class, char.class,
        boolean.class, int[].class, long[].class, short[].class, byte[].class, char[].class, boolean[].class);

    private static final String FACE = String.join("\n",
        "public SendTable()",
        "public boolean SendTable.define(int,int,int)",
        "public boolean SendTable.drop(int,int)",
        "public boolean SendTable.move(int,int)",
        "public int SendTable.addClass(int)",
        "public int SendTable.apart(int)",
        "public int SendTable.classes()",
        "public int SendTable.colours()",
        "public int SendTable.crowd()",
        "public int SendTable.heirs(int,int)",
        "public int SendTable.owner(int,int)",
        "public int SendTable.parent(int)",
        "public int SendTable.send(int,int)",
        "public int SendTable.sendSuper(int,int)",
        "public int SendTable.understands(int)",
        "public static final int SendTable.FULL",
        "public static final int SendTable.NONE");

    public static void main(String[] args) {
        Due.is("NONE", SendTable.NONE, -1);
        Due.is("FULL", SendTable.FULL, -2);
        Due.is("modifiers of the class", Modifier.toString(SendTable.class.getModifiers()), "public final");
        Due.is("what is above the class", SendTable.class.getSuperclass().getName(), "java.lang.Object");
        Due.is("interfaces", SendTable.class.getInterfaces().length, 0);
        Due.is("nested classes", SendTable.class.getDeclaredClasses().length, 0);
        Due.is("the members that are not private", face(), FACE);
        privateNames();
        fields();
        Due.end();
    }

    private static String face() {
        Set<String> members = new TreeSet<>();
        for (Constructor<?> made : SendTable.class.getDeclaredConstructors()) {
            members.add(made.toString());
        }
        for (Method method : SendTable.class.getDeclaredMethods()) {
            if (!Modifier.isPrivate(method.getModifiers())) {
                members.add(method.toString());
            }
        }
        for (Field field : SendTable.class.getDeclaredFields()) {
            if (!Modifier.isPrivate(field.getModifiers())) {
                members.add(field.toString());
            }
        }
        return String.join("\n", members);
    }

    private static void privateNames() {
        for (Method method : SendTable.class.getDeclaredMethods()) {
            boolean isHidden = Modifier.isPrivate(method.getModifiers());
            boolean bearsPublicName = FACE.contains("SendTable." + method.getName() + "(");
            Due.is(method + " is private with a public name", isHidden && bearsPublicName, false);
            Due.is(method + " takes more than seven", method.getParameterCount() > 7, false);
        }
    }

    private static void fields() {
        int held = 0;
        for (Field field : SendTable.class.getDeclaredFields()) {
            boolean isStatic = Modifier.isStatic(field.getModifiers());
            boolean isConstant = Modifier.isFinal(field.getModifiers())
                && (field.getType() == int.class || field.getType() == long.class);
            Due.is(field + " is static and no constant", isStatic && !isConstant, false);
            Due.is(field + " is of an allowed type", TYPES.contains(field.getType()), true);
            held += isStatic ? 0 : 1;
        }
        Due.is("more than forty fields", held > 40, false);
    }
}
