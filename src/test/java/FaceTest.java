import java.lang.reflect.Constructor;
import java.lang.reflect.Field;
import java.lang.reflect.Method;
import java.lang.reflect.Modifier;
import java.util.Arrays;
import java.util.Set;
import java.util.TreeSet;

/** The public face as the document writes it, and that nothing else of the class can be seen. */
final class FaceTest {
    private static final String[] FACE = {
        "void people(int) throws IllegalArgumentException",
        "void items(int) throws IllegalArgumentException",
        "int value(int, int, int) throws IllegalArgumentException, IndexOutOfBoundsException",
        "void picks(int) throws IndexOutOfBoundsException",
        "int circles()",
        "long product() throws IllegalStateException",
        "int give(int, int) throws IndexOutOfBoundsException",
        "int holder(int) throws IndexOutOfBoundsException",
        "int worth(int, int) throws IndexOutOfBoundsException",
        "int envy(int, int, boolean) throws IndexOutOfBoundsException",
        "int guarantee(int) throws IndexOutOfBoundsException, IllegalStateException",
        "int room(int, int, int) throws IllegalArgumentException, IndexOutOfBoundsException",
        "int total(int) throws IllegalArgumentException",
        "int rooms() throws IllegalStateException",
        "long rent(int, int) throws IndexOutOfBoundsException, IllegalStateException",
        "void cake(int) throws IllegalArgumentException",
        "int density(int, int, int) throws IllegalArgumentException, IndexOutOfBoundsException",
        "void cut(boolean)",
        "long piece(int, int) throws IndexOutOfBoundsException, IllegalStateException",
        "long taste(int, int, int) throws IndexOutOfBoundsException, IllegalStateException",
    };

    private static final Check CHECK = new Check("FaceTest");

    public static void main(String[] args) {
        faceIsTheDocuments();
        nothingElseCanBeSeen();
        CHECK.end();
    }

    private static void faceIsTheDocuments() {
        CHECK.same("NONE", FairDesk.NONE, -1);
        int kind = FairDesk.class.getModifiers();
        CHECK.isTrue("the class is not public and final", Modifier.isPublic(kind) && Modifier.isFinal(kind));
        Set<String> seen = new TreeSet<>();
        for (Method method : FairDesk.class.getDeclaredMethods()) {
            if (Modifier.isPublic(method.getModifiers())) {
                CHECK.isTrue(method + " is static", !Modifier.isStatic(method.getModifiers()));
                seen.add(written(method));
            }
        }
        CHECK.same("the face", seen.toString(), new TreeSet<>(Arrays.asList(FACE)).toString());
    }

    private static String written(Method method) {
        String line = method.getReturnType().getSimpleName() + " " + method.getName() + "(" + names(method.getParameterTypes()) + ")";
        String thrown = names(method.getExceptionTypes());
        return thrown.isEmpty() ? line : line + " throws " + thrown;
    }

    private static String names(Class<?>[] classes) {
        StringBuilder text = new StringBuilder();
        for (Class<?> one : classes) {
            text.append(text.length() == 0 ? "" : ", ").append(one.getSimpleName());
        }
        return text.toString();
    }

    private static void nothingElseCanBeSeen() {
        for (Method method : FairDesk.class.getDeclaredMethods()) {
            CHECK.isTrue(method + " can be seen", Modifier.isPublic(method.getModifiers()) || Modifier.isPrivate(method.getModifiers()));
        }
        for (Field field : FairDesk.class.getDeclaredFields()) {
            CHECK.isTrue(field + " can be seen", field.getName().equals("NONE") || Modifier.isPrivate(field.getModifiers()));
        }
        Constructor<?>[] constructors = FairDesk.class.getDeclaredConstructors();
        CHECK.same("the number of constructors", constructors.length, 1);
        CHECK.same("the constructor's parameters", constructors[0].getParameterCount(), 0);
        CHECK.isTrue("the constructor is not public", Modifier.isPublic(constructors[0].getModifiers()));
    }
}
