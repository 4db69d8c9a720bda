import java.lang.reflect.Constructor;
import java.lang.reflect.Field;
import java.lang.reflect.Method;
import java.lang.reflect.Modifier;
import java.util.Arrays;
import java.util.TreeSet;

/** The class has the members of the document's face, and shows no others. */
public final class FaceTest {
    private static final String[] FACE = {
        "int begin(boolean)",
        "int read(int,int) IllegalStateException",
        "int near(int,int,boolean) IllegalStateException",
        "long value()",
        "int key()",
        "int scan(int,int,int,int) IllegalStateException IllegalArgumentException",
        "int rowKey(int) NoSuchElementException",
        "long rowValue(int) NoSuchElementException",
        "int write(int,int,long) IllegalStateException UnsupportedOperationException",
        "int remove(int,int) IllegalStateException UnsupportedOperationException",
        "int save(int) IllegalStateException",
        "int undo(int,int) IllegalStateException IndexOutOfBoundsException",
        "int commit(int) IllegalStateException",
        "void abort(int) IllegalStateException",
        "int told(int,int)",
        "int why(int)",
        "int version(int,int,int)",
        "long versionValue(int,int)",
        "int count(int)",
        "int astray()",
    };

    private static String form(Method method) {
        StringBuilder text = new StringBuilder();
        text.append(method.getReturnType().getSimpleName()).append(' ').append(method.getName()).append('(');
        String mark = "";
        for (Class<?> type : method.getParameterTypes()) {
            text.append(mark).append(type.getSimpleName());
            mark = ",";
        }
        text.append(')');
        for (Class<?> type : method.getExceptionTypes()) text.append(' ').append(type.getSimpleName());
        return text.toString();
    }

    private static int wrong = 0;

    private static void due(String what, Object got, Object want) {
        if (!got.equals(want)) {
            wrong++;
            System.out.println(what + ": " + got + ", due is " + want);
        }
    }

    public static void main(String[] args) throws Exception {
        Class<RingKeeper> face = RingKeeper.class;
        due("modifiers", Modifier.toString(face.getModifiers()), "public final");
        TreeSet<String> methods = new TreeSet<>();
        TreeSet<String> names = new TreeSet<>();
        for (Method m : face.getDeclaredMethods()) {
            if (!Modifier.isPrivate(m.getModifiers())) {
                methods.add(form(m));
                names.add(m.getName());
                due("modifiers of " + m.getName(), Modifier.toString(m.getModifiers()), "public");
            }
        }
        due("methods", methods, new TreeSet<>(Arrays.asList(FACE)));
        for (Method m : face.getDeclaredMethods()) {
            if (Modifier.isPrivate(m.getModifiers())) due("private " + m.getName(), names.contains(m.getName()), false);
        }
        Constructor<?>[] constructors = face.getDeclaredConstructors();
        due("constructors", constructors.length, 1);
        due("constructor", constructors[0].toString(), "public RingKeeper()");
        for (Field f : face.getDeclaredFields()) {
            boolean isNone = f.getName().equals("NONE");
            due("private " + f.getName(), Modifier.isPrivate(f.getModifiers()), !isNone);
            due("static and not final " + f.getName(),
                    Modifier.isStatic(f.getModifiers()) && !Modifier.isFinal(f.getModifiers()), false);
        }
        due("NONE", Modifier.toString(face.getField("NONE").getModifiers()), "public static final");
        due("NONE", RingKeeper.NONE, -1);
        System.out.println(wrong == 0 ? "the face is as due" : wrong + " parts of the face are not as due");
        if (wrong != 0) System.exit(1);
    }
}
