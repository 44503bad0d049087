import java.lang.reflect.Constructor;
import java.lang.reflect.Field;
import java.lang.reflect.Method;
import java.lang.reflect.Modifier;
import java.util.Set;
import java.util.TreeSet;

/** The public face, and the rules of LANGUAGE.md that the compiled class shows. */
public final class FaceTest {
    private static final Set<String> FACE = Set.of(
            "public static final int BAD_REPLICA",
            "public static final int BAD_ROW",
            "public static final int FULL",
            "public static final int ABSENT",
            "public static final int SAME",
            "public CrdtTable()",
            "public int CrdtTable.add(int,int)",
            "public int CrdtTable.drop(int,int)",
            "public int CrdtTable.name(int,int,int)",
            "public int CrdtTable.count(int,int,int)",
            "public int CrdtTable.link(int,int,int)",
            "public int CrdtTable.learn(int,int)",
            "public int CrdtTable.learnSome(int,int,int)",
            "public boolean CrdtTable.there(int,int)",
            "public int CrdtTable.nameOf(int,int)",
            "public int CrdtTable.countOf(int,int)",
            "public int CrdtTable.linkOf(int,int)",
            "public int CrdtTable.rows(int)",
            "public int CrdtTable.sum(int)",
            "public int CrdtTable.known(int)",
            "public boolean CrdtTable.agree(int,int)");

    public static void main(String[] args) {
        constants();
        members();
        classItself();
        fields();
        methods();
        Due.end();
    }

    private static void constants() {
        Due.is("BAD_REPLICA", -1, CrdtTable.BAD_REPLICA);
        Due.is("BAD_ROW", -2, CrdtTable.BAD_ROW);
        Due.is("FULL", -3, CrdtTable.FULL);
        Due.is("ABSENT", -4, CrdtTable.ABSENT);
        Due.is("SAME", -5, CrdtTable.SAME);
    }

    private static void members() {
        Set<String> visible = new TreeSet<>();
        for (Field field : CrdtTable.class.getDeclaredFields()) {
            if (!Modifier.isPrivate(field.getModifiers())) {
                visible.add(Modifier.toString(field.getModifiers()) + " " + field.getType() + " " + field.getName());
            }
        }
        for (Constructor<?> made : CrdtTable.class.getDeclaredConstructors()) {
            visible.add(made.toString());
        }
        for (Method method : CrdtTable.class.getDeclaredMethods()) {
            if (!Modifier.isPrivate(method.getModifiers())) {
                visible.add(method.toString());
            }
        }
        for (String member : visible) {
            Due.is("the face has " + member, true, FACE.contains(member));
        }
        for (String member : FACE) {
            Due.is("the class has " + member, true, visible.contains(member));
        }
    }

    private static void classItself() {
        int modifiers = CrdtTable.class.getModifiers();
        Due.is("public", true, Modifier.isPublic(modifiers));
        Due.is("final", true, Modifier.isFinal(modifiers));
        Due.is("superclass is Object", true, CrdtTable.class.getSuperclass() == Object.class);
        Due.is("interfaces", 0, CrdtTable.class.getInterfaces().length);
        Due.is("nested classes", 0, CrdtTable.class.getDeclaredClasses().length);
        Due.is("in no package", true, CrdtTable.class.getPackageName().isEmpty());
    }

    private static void fields() {
        int held = 0;
        for (Field field : CrdtTable.class.getDeclaredFields()) {
            Due.is("type of " + field.getName() + " is allowed", true, isAllowed(field.getType()));
            if (Modifier.isStatic(field.getModifiers())) {
                boolean number = field.getType() == int.class || field.getType() == long.class;
                Due.is("static " + field.getName() + " is a constant", true,
                        number && Modifier.isFinal(field.getModifiers()));
            } else {
                held++;
            }
        }
        Due.is("at most forty fields beside the constants", true, held <= 40);
    }

    private static void methods() {
        Set<String> publicNames = new TreeSet<>();
        for (Method method : CrdtTable.class.getDeclaredMethods()) {
            if (Modifier.isPublic(method.getModifiers())) {
                publicNames.add(method.getName());
            }
        }
        for (Method method : CrdtTable.class.getDeclaredMethods()) {
            String name = method.getName();
            Due.is(name + " takes at most seven parameters", true, method.getParameterCount() <= 7);
            Due.is(name + " answers no array", false, method.getReturnType().isArray());
            for (Class<?> type : method.getParameterTypes()) {
                Due.is(name + " takes allowed types", true, isAllowed(type));
            }
            if (Modifier.isPrivate(method.getModifiers())) {
                Due.is("private " + name + " bears a public name", false, publicNames.contains(name));
            }
        }
    }

    private static boolean isAllowed(Class<?> type) {
        Class<?> inner = type.isArray() ? type.getComponentType() : type;
        return inner.isPrimitive() && inner != float.class && inner != double.class;
    }
}
