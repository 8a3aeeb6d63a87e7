import java.lang.management.ManagementFactory;
import java.lang.reflect.Constructor;
import java.lang.reflect.Field;
import java.lang.reflect.Method;
import java.lang.reflect.Modifier;
import java.util.Arrays;
import java.util.TreeSet;

/** The public face as the document has it, and how much room a run takes. */
public final class FaceTest {
    private static final Check check = new Check("FaceTest");
    private static final String[] METHODS = {
        "int feed(int,int,int,int,int)", "boolean end(int)", "int put(int) IndexOutOfBoundsException",
        "int lay() IllegalArgumentException IllegalStateException UnsupportedOperationException",
        "int type() IllegalStateException", "int command() IllegalArgumentException", "void clock(int)",
        "void begin()", "int run(int) IllegalArgumentException", "int state()",
        "int look(int) NoSuchElementException", "int register(int) NoSuchElementException",
        "boolean set(int,int)", "int peek(int)", "int files()", "int file(int,int) NoSuchElementException",
        "int fileByte(int,int,boolean)", "int handle(int,int) NoSuchElementException", "int printed(int)",
        "int print(int,int)"};

    private FaceTest() {
    }

    public static void main(String[] args) {
        face();
        innerClasses();
        room();
        check.finish();
    }

    private static String names(Class<?>[] types, String between) {
        StringBuilder s = new StringBuilder();
        for (Class<?> type : types) {
            s.append(s.length() == 0 ? "" : between).append(type.getSimpleName());
        }
        return s.toString();
    }

    private static void face() {
        int modifiers = HostBench.class.getModifiers();
        check.isTrue("public and final", Modifier.isPublic(modifiers) && Modifier.isFinal(modifiers));
        TreeSet<String> found = new TreeSet<>();
        TreeSet<String> publicNames = new TreeSet<>();
        for (Method m : HostBench.class.getDeclaredMethods()) {
            if (!Modifier.isPrivate(m.getModifiers())) {
                check.same(m + ": modifiers", m.getModifiers(), Modifier.PUBLIC);
                String text = m.getReturnType().getSimpleName() + " " + m.getName()
                        + "(" + names(m.getParameterTypes(), ",") + ") " + names(m.getExceptionTypes(), " ");
                found.add(text.trim());
                publicNames.add(m.getName());
            }
        }
        check.same("methods", found.toString(), new TreeSet<>(Arrays.asList(METHODS)).toString());
        for (Method m : HostBench.class.getDeclaredMethods()) {
            check.isFalse("a private " + m.getName(),
                    Modifier.isPrivate(m.getModifiers()) && publicNames.contains(m.getName()));
        }
        for (Field f : HostBench.class.getDeclaredFields()) {
            check.isTrue("field " + f.getName(), Modifier.isPrivate(f.getModifiers()) || f.getName().equals("NONE"));
            check.isTrue("final " + f.getName(), Modifier.isFinal(f.getModifiers()));
        }
        Constructor<?>[] constructors = HostBench.class.getDeclaredConstructors();
        check.same("constructors", constructors.length, 1);
        check.same("public HostBench()", constructors[0].toString(), "public HostBench()");
    }

    private static void innerClasses() {
        Class<?>[] inner = HostBench.class.getDeclaredClasses();
        check.isTrue("at most twelve classes", inner.length < 12);
        for (Class<?> c : inner) {
            int modifiers = c.getModifiers();
            check.isTrue(c.getName() + " is static", Modifier.isStatic(modifiers));
            check.isFalse(c.getName() + " is not public", Modifier.isPublic(modifiers));
            int fields = 0;
            for (Field f : c.getDeclaredFields()) {
                boolean isStatic = Modifier.isStatic(f.getModifiers());
                check.isTrue(f + " is final", !isStatic || Modifier.isFinal(f.getModifiers()));
                fields += isStatic ? 0 : 1;
            }
            check.isTrue(c.getName() + " has at most twenty fields", fields <= 20);
        }
    }

    private static long taken() {
        com.sun.management.ThreadMXBean threads =
                (com.sun.management.ThreadMXBean) ManagementFactory.getThreadMXBean();
        return threads.getThreadAllocatedBytes(Thread.currentThread().getId());
    }

    /** The room for all calls of a run has 7.3 million elements: an object is small, and run() makes nothing. */
    private static void room() {
        taken();
        new HostBench();
        long start = taken();
        check.same("a new object", new HostBench().state(), 0);
        check.isTrue("an object takes less than 400,000 bytes", taken() - start < 400000);
        Bench b = new Bench();
        b.open(":tt", 4);
        b.words(Bench.BLOCK, 1, 0, 16384);
        b.words(Bench.CODE, Rv.addi(10, 0, 5), Rv.MARK_AHEAD, Rv.EBREAK, Rv.MARK_BEHIND, Rv.jal(0, -16));
        b.x.set(11, Bench.BLOCK);
        b.x.set(32, Bench.CODE);
        HostBench object = b.x.object();
        long before = taken();
        for (int i = 0; i < 400; i++) {
            object.run(5000);
        }
        check.isTrue("2,000,000 STEPS take less than 1,000,000 bytes", taken() - before < 1000000);
        check.same("they are done", object.look(4), 1 + 400 * 1250);
    }
}
