import com.sun.management.ThreadMXBean;
import java.lang.management.ManagementFactory;
import java.lang.reflect.Constructor;
import java.lang.reflect.Field;
import java.lang.reflect.Method;
import java.lang.reflect.Modifier;
import java.util.Arrays;
import java.util.TreeSet;

/** The document's face and nothing beside it, and how little of the one room a run of the dearest calls takes. */
public final class FaceTests {
    private static final String[] FACE = {
        "boolean type(char)", "void wipe()",
        "int value(int) throws IllegalArgumentException, IndexOutOfBoundsException",
        "int generate() throws IllegalArgumentException, IllegalStateException",
        "void forget()",
        "void image(int) throws IllegalArgumentException, IndexOutOfBoundsException",
        "boolean extend() throws IllegalStateException",
        "int kernel(int) throws IndexOutOfBoundsException, IllegalStateException",
        "int images(int) throws IndexOutOfBoundsException, IllegalStateException",
        "int stabiliser(int,int,boolean,int) throws IndexOutOfBoundsException, IllegalArgumentException",
        "int centraliser(int,int) throws IndexOutOfBoundsException, IllegalArgumentException",
        "int closure(int,int) throws IndexOutOfBoundsException, IllegalArgumentException",
        "int derived(int,int) throws IndexOutOfBoundsException",
        "int order(int) throws IndexOutOfBoundsException",
        "int rank(int) throws IndexOutOfBoundsException, IllegalArgumentException",
        "int element(int,int,int) throws IndexOutOfBoundsException",
        "int orbit(int,int) throws IndexOutOfBoundsException"};
    /** The room has 7.3 million fields and elements; this is far below it, and far above what a run needs. */
    private static final long MOST_BYTES = 1_000_000;

    /** With those before them that make the desk ready, some 500: one desk takes 512. */
    private static final int CALLS = 450;

    private static final Check check = new Check("FaceTests");

    public static void main(String[] args) {
        face();
        names();
        room("kernel", FaceTests::callKernel);
        room("closure", FaceTests::callClosure);
        room("derived", FaceTests::callDerived);
        room("centraliser", FaceTests::callCentraliser);
        room("new", FaceTests::callConstructor);
        check.end();
    }

    private static void face() {
        check.yes("final", Modifier.isFinal(PermutationDesk.class.getModifiers()));
        TreeSet<String> got = new TreeSet<>();
        for (Method method : PermutationDesk.class.getDeclaredMethods()) {
            if (!Modifier.isPrivate(method.getModifiers())) {
                got.add(told(method));
            }
        }
        check.text("methods", got.toString(), new TreeSet<>(Arrays.asList(FACE)).toString());
        for (Field field : PermutationDesk.class.getDeclaredFields()) {
            check.yes("private: " + field.getName(), Modifier.isPrivate(field.getModifiers()));
        }
        Constructor<?>[] constructors = PermutationDesk.class.getDeclaredConstructors();
        check.same("constructors", constructors.length, 1);
        check.text("constructor", constructors[0].toString(), "public PermutationDesk(int)");
    }

    private static String told(Method method) {
        String signature = method.toString().replace("public ", "").replace("PermutationDesk.", "");
        return signature.replace("java.lang.", "").replace(",Ill", ", Ill").replace(",Index", ", Index");
    }

    /** No method of the program's own bears the name of one of the face. */
    private static void names() {
        TreeSet<String> face = new TreeSet<>();
        for (String row : FACE) {
            face.add(row.substring(row.indexOf(' ') + 1, row.indexOf('(')));
        }
        for (Class<?> inside : PermutationDesk.class.getDeclaredClasses()) {
            check.yes("static: " + inside.getName(), Modifier.isStatic(inside.getModifiers()));
            for (Method method : inside.getDeclaredMethods()) {
                check.no("name of the face: " + method, face.contains(method.getName()));
            }
        }
    }

    private interface Call {
        void on(PermutationDesk desk);
    }

    private static void room(String name, Call call) {
        ThreadMXBean bean = (ThreadMXBean) ManagementFactory.getThreadMXBean();
        long thread = Thread.currentThread().getId();
        PermutationDesk desk = Check.desk(7, "(0123456)", "(01)");
        Check.images(desk, "(0246135)", "(02)");
        call.on(desk);
        long before = bean.getThreadAllocatedBytes(thread);
        for (int k = 0; k < CALLS; k++) {
            call.on(desk);
        }
        long taken = bean.getThreadAllocatedBytes(thread) - before;
        check.yes("room of " + CALLS + " calls of " + name + ": " + taken + " bytes", taken < (name.equals("new") ? 4 : 1) * MOST_BYTES);
    }

    private static void callKernel(PermutationDesk desk) {
        desk.kernel(1);
    }

    private static void callClosure(PermutationDesk desk) {
        desk.closure(0, 1);
    }

    private static void callDerived(PermutationDesk desk) {
        desk.derived(0, 1);
    }

    private static void callCentraliser(PermutationDesk desk) {
        desk.centraliser(0, 1);
    }

    private static void callConstructor(PermutationDesk desk) {
        new PermutationDesk(6).wipe();
    }
}
