import java.lang.reflect.Constructor;
import java.lang.reflect.Field;
import java.lang.reflect.Method;
import java.lang.reflect.Modifier;
import java.util.HashSet;
import java.util.Set;
import java.util.TreeSet;

/** The document's public face, and what rules 1, 2, 5 and 10 of LANGUAGE.md say of the class's members. */
public final class FaceTest {
    private static final String[] FACE = {
        "add 2", "repeat 4", "remove 2", "clear 2", "merge 1", "join 3", "complement 1", "copy 2", "size 1",
        "stretch 2", "overlapping 2", "overlap 3", "around 2", "depth 2", "deepest 1", "covered 2", "closest 2",
        "distance 2", "shared 2", "meetings 2",
    };

    public static void main(String[] args) {
        theClass();
        theConstructor();
        theMethods();
        theFields();
        Due.end();
    }

    private static void theClass() {
        int modifiers = TrackAlgebra.class.getModifiers();
        expect(Modifier.isPublic(modifiers) && Modifier.isFinal(modifiers), "the class is public and final");
        expect(TrackAlgebra.class.getDeclaredClasses().length == 0, "no class is nested");
        expect(TrackAlgebra.class.getSuperclass() == Object.class, "the class extends nothing");
        expect(TrackAlgebra.class.getInterfaces().length == 0, "the class implements nothing");
    }

    private static void theConstructor() {
        Constructor<?>[] all = TrackAlgebra.class.getDeclaredConstructors();
        expect(all.length == 1, "there is one constructor");
        expect(Modifier.isPublic(all[0].getModifiers()), "the constructor is public");
        expect(all[0].getParameterCount() == 0, "the constructor takes nothing");
    }

    private static void theMethods() {
        Set<String> face = new TreeSet<>();
        Set<String> publicNames = new HashSet<>();
        Set<String> privateNames = new HashSet<>();
        for (Method method : TrackAlgebra.class.getDeclaredMethods()) {
            String name = method.getName();
            expect(method.getParameterCount() <= 7, name + " takes at most seven parameters");
            if (Modifier.isPrivate(method.getModifiers())) {
                privateNames.add(name);
                continue;
            }
            publicNames.add(name);
            face.add(name + " " + method.getParameterCount());
            expect(method.getModifiers() == Modifier.PUBLIC, name + " is public and nothing else");
            expect(method.getReturnType() == int.class, name + " answers an int");
            for (Class<?> type : method.getParameterTypes()) {
                expect(type == int.class, name + " takes ints");
            }
        }
        expect(face.equals(new TreeSet<>(Set.of(FACE))), "the public methods are the document's, not " + face);
        privateNames.retainAll(publicNames);
        expect(privateNames.isEmpty(), "no private method bears a public one's name: " + privateNames);
    }

    private static void theFields() {
        int beside = 0;
        for (Field field : TrackAlgebra.class.getDeclaredFields()) {
            String name = field.getName();
            Class<?> type = field.getType();
            expect(Modifier.isPrivate(field.getModifiers()), name + " is private");
            if (Modifier.isStatic(field.getModifiers())) {
                expect(Modifier.isFinal(field.getModifiers()), name + " is a constant");
                expect(type == int.class || type == long.class, name + " is an int or a long");
            } else {
                beside++;
                Class<?> part = type.isArray() ? type.getComponentType() : type;
                boolean allowed = part.isPrimitive() && part != float.class && part != double.class;
                expect(allowed, name + " is of a type that rule 2 allows");
            }
        }
        expect(beside <= 40, "there are at most forty fields beside the constants");
    }

    private static void expect(boolean holds, String what) {
        if (!holds) {
            Due.tell("does not hold: " + what);
        }
    }
}
