import java.io.IOException;
import java.lang.reflect.Constructor;
import java.lang.reflect.Field;
import java.lang.reflect.Method;
import java.lang.reflect.Modifier;
import java.nio.file.Files;
import java.nio.file.Path;
import java.util.Set;
import java.util.TreeSet;

/** The public face, and that README.md tells of all of it and gives an example that holds. */
public final class FaceTest {
    private static final Set<String> METHODS = Set.of(
            "boolean feed(int, int, int, int, int)", "boolean end(int)", "int directory(int, int, int, int)",
            "int file(int, int, int)", "int link(int)", "boolean own(int, int, int, int)", "int master()",
            "int sectors()", "int byteAt(int)", "int poke(int, int)", "boolean cut(int)",
            "int mount(int) throws IllegalArgumentException", "int node(int, int) throws NoSuchElementException",
            "int name(int, int) throws NoSuchElementException", "int target(int, int) throws NoSuchElementException",
            "int read(int, int) throws NoSuchElementException");

    public static void main(String[] args) throws IOException {
        theClass();
        methods();
        fields();
        readmeNamesTheFace(Files.readString(Path.of("README.md")));
        readmesExample();
        Check.finish();
    }

    private static void theClass() {
        Check.yes("the class is public", Modifier.isPublic(DiscMaker.class.getModifiers()));
        Check.yes("the class is final", Modifier.isFinal(DiscMaker.class.getModifiers()));
        Constructor<?>[] constructors = DiscMaker.class.getDeclaredConstructors();
        Check.same("constructors", constructors.length, 1);
        Check.same("what the constructor takes", constructors[0].getParameterCount(), 0);
        Check.yes("the constructor is public", Modifier.isPublic(constructors[0].getModifiers()));
        for (Class<?> inside : DiscMaker.class.getDeclaredClasses()) {
            Check.yes(inside + " is static", Modifier.isStatic(inside.getModifiers()));
            Check.no(inside + " is public", Modifier.isPublic(inside.getModifiers()));
            Check.no(inside + " is protected", Modifier.isProtected(inside.getModifiers()));
        }
    }

    private static void methods() {
        Set<String> found = new TreeSet<>();
        for (Method m : DiscMaker.class.getDeclaredMethods()) {
            if (!Modifier.isPrivate(m.getModifiers()) && !m.isSynthetic()) {
                Check.yes(m + " is public", Modifier.isPublic(m.getModifiers()));
                Check.no(m + " is static", Modifier.isStatic(m.getModifiers()));
                found.add(signature(m));
            }
        }
        Check.same("the methods", found.toString(), new TreeSet<>(METHODS).toString());
    }

    private static String signature(Method m) {
        StringBuilder row = new StringBuilder();
        row.append(m.getReturnType().getSimpleName()).append(' ').append(m.getName()).append('(');
        String between = "";
        for (Class<?> type : m.getParameterTypes()) {
            row.append(between).append(type.getSimpleName());
            between = ", ";
        }
        row.append(')');
        for (Class<?> thrown : m.getExceptionTypes()) {
            row.append(" throws ").append(thrown.getSimpleName());
        }
        return row.toString();
    }

    private static void fields() {
        Set<String> found = new TreeSet<>();
        for (Field f : DiscMaker.class.getDeclaredFields()) {
            if (!Modifier.isPrivate(f.getModifiers())) {
                Check.same(f.getName(), Modifier.toString(f.getModifiers()), "public static final");
                Check.same("the type of " + f.getName(), f.getType().getSimpleName(), "int");
                found.add(f.getName());
            }
        }
        Check.same("the constants", found.toString(), "[FULL, NAMED, NONE, WRONG]");
    }

    private static void readmeNamesTheFace(String readme) {
        for (String method : METHODS) {
            String head = method.substring(0, method.indexOf('(') + 1);
            Check.yes("README.md tells of " + head, readme.contains("\n- `" + head));
        }
        for (String constant : new String[] {"`NONE` = -1", "`NAMED` = -2", "`FULL` = -3", "`WRONG` = -4"}) {
            Check.yes("README.md tells of " + constant, readme.contains(constant));
        }
    }

    private static void readmesExample() {
        DiscMaker x = new DiscMaker();
        Check.yes("feed", x.feed(0x64000000, 0, 0, 0, 0));
        Check.yes("end", x.end(1));
        Check.same("directory", x.directory(0, 0755, 10, 20), 1);
        Check.yes("feed", x.feed(0x612E7478, 0x74000000, 0, 0, 0));
        Check.yes("end", x.end(5));
        Check.same("file", x.file(1, 100, 7), 2);
        Check.yes("feed", x.feed(0x6C00642F, 0x612E7478, 0x74000000, 0, 0));
        Check.yes("end", x.end(9));
        Check.same("link", x.link(0), 3);
        Check.same("master", x.master(), 28);
        Check.same("mount", x.mount(2), 4);
        Check.same("the file's parent", x.node(3, 0), 1);
        Check.same("the file's size", x.node(3, 2), 100);
        Check.same("the file's name", x.name(3, 0), 'a');
        Check.same("the file's first byte", x.read(3, 0), 7);
        Check.same("the link's target", x.target(2, 0), 'd');
        Check.yes("the first record had other bytes", x.poke(23 * 2048, 33) > 33);
        Check.same("the spoilt image", x.mount(2), -1 - 23 * 2048);
    }
}
