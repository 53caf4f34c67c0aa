import java.lang.reflect.Constructor;
import java.lang.reflect.Field;
import java.lang.reflect.Member;
import java.lang.reflect.Method;
import java.lang.reflect.Modifier;
import java.util.Arrays;
import java.util.TreeSet;

/** The face is the one of the document, and nothing else is seen from outside. */
final class FaceTest {
    private static final String[] METHODS = {
        "feed(long,int):int", "write(int,int):int", "fill(int,int,int,int):int", "clear(int):int",
        "put(int,boolean,boolean):int", "about(int,int):int", "number(int,int):int", "fragments():int",
        "fragment(int,int):int", "size():int", "word(int):long", "patch(int,int):int", "cut(int):int",
        "read(int,int,int):int", "out(int):long", "taken():int"};

    private FaceTest() {
    }

    public static void main(String[] args) {
        Class<?> face = SharedBlocks.class;
        Due.holds("the class is public and final", face.getModifiers() == (Modifier.PUBLIC | Modifier.FINAL));
        Due.same("BAD", SharedBlocks.BAD, -1);
        Due.same("NONE", SharedBlocks.NONE, -2);
        Due.same("FULL", SharedBlocks.FULL, -3);
        Due.same("SPOILT", SharedBlocks.SPOILT, -4);
        TreeSet<String> seen = new TreeSet<>();
        TreeSet<String> hidden = new TreeSet<>();
        for (Method method : face.getDeclaredMethods()) {
            if (Modifier.isPrivate(method.getModifiers())) {
                hidden.add(method.getName());
                continue;
            }
            Due.holds(method + " is public alone", method.getModifiers() == Modifier.PUBLIC);
            String types = Arrays.toString(method.getParameterTypes());
            seen.add(method.getName() + "(" + types.substring(1, types.length() - 1).replace(" ", "") + "):"
                    + method.getReturnType());
        }
        Due.holds("the methods are " + seen, seen.equals(new TreeSet<>(Arrays.asList(METHODS))));
        for (String method : METHODS) {
            String name = method.substring(0, method.indexOf('('));
            Due.holds("no private method is named " + name, !hidden.contains(name));
        }
        for (Field field : face.getDeclaredFields()) {
            boolean constant = Arrays.asList("BAD", "NONE", "FULL", "SPOILT").contains(field.getName());
            Due.holds(field + " is hidden", constant || isHidden(field));
        }
        Constructor<?>[] constructors = face.getDeclaredConstructors();
        Due.same("constructors", constructors.length, 1);
        Due.holds("the constructor is public", constructors[0].getModifiers() == Modifier.PUBLIC
                && constructors[0].getParameterCount() == 0);
        Due.end();
    }

    private static boolean isHidden(Member member) {
        return Modifier.isPrivate(member.getModifiers());
    }
}
