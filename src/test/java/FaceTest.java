import java.lang.reflect.Constructor;
import java.lang.reflect.Field;
import java.lang.reflect.Member;
import java.lang.reflect.Method;
import java.lang.reflect.Modifier;
import java.util.ArrayList;
import java.util.Arrays;
import java.util.List;
import java.util.Set;
import java.util.TreeSet;

/** The face of the class is that of the document, and its members keep to LANGUAGE.md. */
public final class FaceTest {
    private static final String I = " throws IllegalArgumentException";
    private static final String S = " throws IllegalStateException";
    private static final String N = " throws NoSuchElementException";
    private static final String X = " throws IndexOutOfBoundsException";

    private static final String[] FACE = {
        "int feed(int)" + I + S, "int setKey(long,int)" + I, "int cutKey(int)" + I, "int keyByte(int)" + X,
        "int swapBound()", "int setCapacity(int)" + I + S, "boolean put(int)" + S, "int get()" + N,
        "int remove()" + N, "int removeRange()", "int size()", "int rank()", "int select(int)" + X,
        "int floor()" + N, "int countPrefix()", "int height()", "int pageCount(int)" + X,
        "int pageSize(int,int)" + X, "int pageFanout(int,int)" + X, "int separator(int,int,int)" + X + N,
        "int statistic(int)" + I, "long occupancyBits()", "boolean open(int)" + I, "boolean close(int)" + I,
        "boolean advance(int)" + I + S + N, "int retreat(int)" + I + S + N, "int current(int)" + I + S + N,
        "int removeAt(int)" + I + S + N, "int distance(int,int)" + I + S, "int queue(int)" + S,
        "int load(int)" + I, "int saveSnapshot()", "int restoreSnapshot()" + S};

    public static void main(String[] args) {
        face();
        members();
        staticFields();
        Due.end("FaceTest");
    }

    private static String told(Method method) {
        List<String> parameters = new ArrayList<>();
        for (Class<?> type : method.getParameterTypes()) {
            parameters.add(type.getSimpleName());
        }
        StringBuilder text = new StringBuilder(method.getReturnType().getSimpleName());
        text.append(" ").append(method.getName()).append("(").append(String.join(",", parameters)).append(")");
        for (Class<?> type : method.getExceptionTypes()) {
            text.append(" throws ").append(type.getSimpleName());
        }
        return text.toString();
    }

    private static void face() {
        Set<String> face = new TreeSet<>();
        for (Method method : FrontCodedIndex.class.getDeclaredMethods()) {
            if (!Modifier.isPrivate(method.getModifiers())) {
                face.add(told(method));
                Due.is("public " + method, Modifier.isPublic(method.getModifiers()), true);
                Due.is("not static " + method, Modifier.isStatic(method.getModifiers()), false);
            }
        }
        Due.is("the methods", String.join("\n", face), String.join("\n", new TreeSet<>(Arrays.asList(FACE))));
        Constructor<?>[] constructors = FrontCodedIndex.class.getDeclaredConstructors();
        Due.is("one constructor", constructors.length, 1);
        Due.is("without arguments", constructors[0].getParameterCount(), 0);
        Due.is("it is public", Modifier.isPublic(constructors[0].getModifiers()), true);
        int kind = FrontCodedIndex.class.getModifiers();
        Due.is("a public final class", Modifier.isPublic(kind) && Modifier.isFinal(kind), true);
    }

    private static void members() {
        Set<String> names = new TreeSet<>();
        for (Method method : FrontCodedIndex.class.getDeclaredMethods()) {
            Due.is("name used once: " + method.getName(), names.add(method.getName()), true);
            Due.is("at most seven parameters", method.getParameterCount() <= 7, true);
        }
        for (Field field : FrontCodedIndex.class.getDeclaredFields()) {
            Due.is("private " + field, Modifier.isPrivate(field.getModifiers()), true);
        }
        Class<?>[] inside = FrontCodedIndex.class.getDeclaredClasses();
        Due.is("at most twelve classes", inside.length < 12, true);
        for (Class<?> type : inside) {
            Due.is("private and static " + type, isPrivateAndStatic(type), true);
        }
    }

    private static boolean isPrivateAndStatic(Class<?> type) {
        return Modifier.isPrivate(type.getModifiers()) && Modifier.isStatic(type.getModifiers());
    }

    private static void staticFields() {
        List<Member> fields = new ArrayList<>(Arrays.asList(FrontCodedIndex.class.getDeclaredFields()));
        for (Class<?> type : FrontCodedIndex.class.getDeclaredClasses()) {
            fields.addAll(Arrays.asList(type.getDeclaredFields()));
        }
        for (Member field : fields) {
            if (Modifier.isStatic(field.getModifiers())) {
                Due.is("constant int " + field, ((Field) field).getType() == int.class
                        && Modifier.isFinal(field.getModifiers()), true);
            }
        }
    }
}
