import java.lang.reflect.Constructor;
import java.lang.reflect.Field;
import java.lang.reflect.Method;
import java.lang.reflect.Modifier;
import java.util.ArrayList;
import java.util.Arrays;
import java.util.List;
import java.util.Set;
import java.util.TreeSet;

/** The class has the document's face, and no more of it. */
public final class FaceTests {
    private static int wrong = 0;

    private static final String[] METHODS = {
        "int arrow(int,int) IndexOutOfBoundsException IllegalStateException",
        "int type(int,int) IndexOutOfBoundsException IllegalArgumentException",
        "int addType(int,int) IndexOutOfBoundsException IllegalArgumentException IllegalStateException",
        "boolean addValue(int,int,int) IndexOutOfBoundsException IllegalArgumentException",
        "boolean addPart(int,int) IndexOutOfBoundsException IllegalArgumentException",
        "int open(int) IndexOutOfBoundsException",
        "int structure() IllegalStateException",
        "int item(int,int,int,int) IndexOutOfBoundsException IllegalArgumentException",
        "int items(int) IndexOutOfBoundsException",
        "int specType(int,int) IndexOutOfBoundsException IllegalArgumentException IllegalStateException",
        "int specValue(int,int,int) IndexOutOfBoundsException IllegalArgumentException IllegalStateException",
        "int specPart(int,int) IndexOutOfBoundsException IllegalArgumentException IllegalStateException",
        "int include(int) IndexOutOfBoundsException IllegalStateException",
        "int signature() IllegalStateException",
        "int with(int,int,int,boolean) IndexOutOfBoundsException IllegalStateException",
        "int specs(int) IndexOutOfBoundsException",
        "int match(int,int) IndexOutOfBoundsException",
        "int seal(int,int) IndexOutOfBoundsException IllegalStateException",
        "int view(int,int) IndexOutOfBoundsException IllegalStateException",
        "boolean finer(int,int) IndexOutOfBoundsException",
        "boolean alike(int,int) IndexOutOfBoundsException",
        "int bodyType(int,int) IllegalArgumentException IllegalStateException",
        "int bodyValue(int,int,int,int,int) IndexOutOfBoundsException IllegalArgumentException IllegalStateException",
        "int functor(int,int,boolean) IndexOutOfBoundsException IllegalStateException",
        "int apply(int,int) IndexOutOfBoundsException IllegalStateException",
        "int pack(int,int) IndexOutOfBoundsException IllegalStateException",
        "int unpack(int) IndexOutOfBoundsException IllegalStateException",
        "int unit(int,int,boolean) IndexOutOfBoundsException IllegalStateException",
        "int change(int,int) IndexOutOfBoundsException",
        "int stale()",
        "int build()",
    };

    private static void check(boolean isRight, String what) {
        if (!isRight) {
            wrong++;
            System.out.println("wrong: " + what);
        }
    }

    private static String told(Method method) {
        List<String> parameters = new ArrayList<>();
        for (Class<?> parameter : method.getParameterTypes()) {
            parameters.add(parameter.getSimpleName());
        }
        StringBuilder text = new StringBuilder(method.getReturnType().getSimpleName() + " " + method.getName()
                + "(" + String.join(",", parameters) + ")");
        for (Class<?> thrown : method.getExceptionTypes()) {
            text.append(' ').append(thrown.getSimpleName());
        }
        return text.toString();
    }

    private static void checkMethods() {
        Set<String> due = new TreeSet<>(Arrays.asList(METHODS));
        Set<String> there = new TreeSet<>();
        Set<String> publicNames = new TreeSet<>();
        for (Method method : ModuleLoft.class.getDeclaredMethods()) {
            if (!Modifier.isPrivate(method.getModifiers())) {
                check(Modifier.isPublic(method.getModifiers()), method + " is seen from outside");
                there.add(told(method));
                publicNames.add(method.getName());
            }
        }
        check(due.equals(there), "the public methods are " + there);
        checkPrivateNames(ModuleLoft.class, publicNames);
        for (Class<?> inside : ModuleLoft.class.getDeclaredClasses()) {
            checkPrivateNames(inside, publicNames);
        }
    }

    private static void checkPrivateNames(Class<?> where, Set<String> publicNames) {
        for (Method method : where.getDeclaredMethods()) {
            if (Modifier.isPrivate(method.getModifiers())) {
                check(!publicNames.contains(method.getName()), method + " bears a public name");
            }
        }
    }

    private static void checkFields() {
        Set<String> constants = new TreeSet<>();
        for (Field field : ModuleLoft.class.getDeclaredFields()) {
            int how = field.getModifiers();
            if (!Modifier.isPrivate(how)) {
                check(Modifier.isPublic(how) && Modifier.isStatic(how) && field.getType() == int.class,
                        field + " is seen from outside");
                constants.add(field.getName());
            }
            check(!Modifier.isStatic(how) || Modifier.isFinal(how), field + " is static and not final");
        }
        check(constants.equals(new TreeSet<>(List.of("NONE", "INT", "BOOL", "ABSTRACT", "PLAIN"))),
                "the constants are " + constants);
    }

    private static void checkClass() {
        check(Modifier.isPublic(ModuleLoft.class.getModifiers()), "the class is public");
        check(Modifier.isFinal(ModuleLoft.class.getModifiers()), "the class is final");
        Constructor<?>[] constructors = ModuleLoft.class.getDeclaredConstructors();
        check(constructors.length == 1 && Modifier.isPublic(constructors[0].getModifiers())
                && constructors[0].getParameterCount() == 0, "there is one public constructor");
        for (Class<?> inside : ModuleLoft.class.getDeclaredClasses()) {
            int how = inside.getModifiers();
            check(Modifier.isStatic(how) && !Modifier.isPublic(how) && !Modifier.isProtected(how),
                    inside + " is static and not public");
        }
    }

    public static void main(String[] args) {
        checkMethods();
        checkFields();
        checkClass();
        System.out.println(wrong == 0 ? "the face is as due" : wrong + " things are not as due");
        if (wrong != 0) {
            System.exit(1);
        }
    }
}
