import java.lang.management.ManagementFactory;
import java.lang.reflect.Constructor;
import java.lang.reflect.Field;
import java.lang.reflect.Member;
import java.lang.reflect.Method;
import java.lang.reflect.Modifier;
import java.util.ArrayList;
import java.util.HashSet;
import java.util.List;
import java.util.Set;
import java.util.TreeSet;

/** The public face, the language's rules as far as a class shows them, and the room it takes. */
public final class FaceTest {
    private static final Check CHECK = new Check();
    private static final String[] FACE = {
        "public PictureFile()",
        "public static final int PictureFile.NONE",
        "public boolean PictureFile.give(long,int)",
        "public boolean PictureFile.poke(int,int)",
        "public boolean PictureFile.cut(int)",
        "public long PictureFile.bytes(int)",
        "public void PictureFile.begin(int) throws java.lang.IllegalArgumentException",
        "public int PictureFile.page(int,int,int,int,int) throws java.lang.IllegalStateException,"
                + "java.lang.IllegalArgumentException",
        "public boolean PictureFile.put(long,int)",
        "public int PictureFile.strip() throws java.lang.IllegalStateException",
        "public int PictureFile.close() throws java.lang.IllegalStateException",
        "public int PictureFile.end() throws java.lang.IllegalStateException",
        "public int PictureFile.read() throws java.lang.IllegalStateException",
        "public int PictureFile.fault(int)",
        "public long PictureFile.of(int,int) throws java.lang.IndexOutOfBoundsException",
        "public int PictureFile.where(int,int,int) throws java.lang.IndexOutOfBoundsException",
        "public int PictureFile.dots(int,int,int) throws java.lang.IndexOutOfBoundsException",
        "public int PictureFile.look(int)",
    };

    public static void main(String[] args) {
        Class<?> c = PictureFile.class;
        face(c);
        inside(c);
        room();
        CHECK.end("FaceTest");
    }

    private static List<Member> membersOf(Class<?> c) {
        List<Member> all = new ArrayList<>(List.of(c.getDeclaredFields()));
        all.addAll(List.of(c.getDeclaredMethods()));
        all.addAll(List.of(c.getDeclaredConstructors()));
        return all;
    }

    private static String textOf(Member m) {
        return m instanceof Method f ? f.toGenericString()
                : m instanceof Constructor<?> k ? k.toGenericString()
                : ((Field) m).toGenericString();
    }

    private static void face(Class<?> c) {
        Set<String> open = new TreeSet<>();
        for (Member m : membersOf(c)) {
            if (!Modifier.isPrivate(m.getModifiers())) {
                open.add(textOf(m));
            }
        }
        CHECK.dueText("the face", open.toString(), new TreeSet<>(List.of(FACE)).toString());
        CHECK.due("public and final", c.getModifiers(), Modifier.PUBLIC | Modifier.FINAL);
        CHECK.dueText("no package", c.getPackageName(), "");
    }

    private static void inside(Class<?> c) {
        Set<String> names = new HashSet<>();
        for (Method m : c.getMethods()) {
            if (m.getDeclaringClass() == c) {
                names.add(m.getName());
            }
        }
        List<Class<?>> all = new ArrayList<>(List.of(c.getDeclaredClasses()));
        CHECK.due("at most twelve classes", all.size() < 12, true);
        for (Class<?> k : all) {
            int bits = k.getModifiers();
            CHECK.due(k + " is static", Modifier.isStatic(bits), true);
            CHECK.due(k + " is hidden", Modifier.isPublic(bits) || Modifier.isProtected(bits), false);
        }
        all.add(c);
        for (Class<?> k : all) {
            for (Member m : membersOf(k)) {
                check(k, m, names);
            }
        }
    }

    private static void check(Class<?> k, Member m, Set<String> names) {
        if (m instanceof Method f) {
            boolean open = Modifier.isPublic(f.getModifiers());
            CHECK.due(f + " bears no public name", !open && names.contains(f.getName()), false);
            CHECK.due(f + " has few parameters", f.getParameterCount() <= 7, true);
        }
        if (m instanceof Field f && Modifier.isStatic(f.getModifiers())) {
            CHECK.due(f + " is final", Modifier.isFinal(f.getModifiers()), true);
        }
        CHECK.due(k + " " + m.getName() + " was written", m.isSynthetic(), false);
    }

    private static long bytesMade() {
        var threads = (com.sun.management.ThreadMXBean) ManagementFactory.getThreadMXBean();
        return threads.getThreadAllocatedBytes(Thread.currentThread().getId());
    }

    /** What 512 calls of the dearest kind make; all calls of a run share one room. */
    private static void room() {
        long[][] e = Draft.with(Draft.plain(8, 0), Draft.one(257, 4, 4096));
        e = Draft.with(e, Draft.one(278, 3, 1));
        e = Draft.with(e, Draft.many(273, 3, 4096, 300));
        e = Draft.with(e, Draft.many(279, 3, 4096, 300 + 8192));
        Draft d = new Draft(73, 8).directory(8, 100, e).directory(100, 0, e).length(300 + 16384);
        for (int i = 0; i < 4096; i++) {
            d.at(300 + 2 * i, 8, 2);
        }
        bytesMade();
        long before = bytesMade();
        PictureFile x = new PictureFile();
        long made = bytesMade() - before;
        CHECK.due("a new object made " + made + " bytes", made < 16384, true);
        d.loadInto(x);
        before = bytesMade();
        int pages = x.read();
        long first = bytesMade() - before;
        before = bytesMade();
        for (int i = 0; i < 511; i++) {
            pages += x.read();
        }
        long more = bytesMade() - before;
        CHECK.due("pages", pages, 1024);
        CHECK.due("the first read made " + first + " bytes", first < 200000, true);
        CHECK.due("511 more made " + more + " bytes", more < 65536, true);
    }
}
