import java.io.IOException;
import java.lang.reflect.Constructor;
import java.lang.reflect.Field;
import java.lang.reflect.Method;
import java.lang.reflect.Modifier;
import java.nio.file.Files;
import java.nio.file.Path;
import java.util.Arrays;
import java.util.Map;
import java.util.TreeMap;

/** The public face, member by member, and the rules of LANGUAGE.md that a text can be searched for. */
public final class FaceTest {
    static void due(String what, Object got, Object due) {
        Due.checks++;
        if (!due.equals(got)) {
            Due.wrong++;
            System.out.println(what + " is " + got + ", due is " + due);
        }
    }

    static String exceptions(Class<?>[] thrown) {
        return Arrays.toString(Arrays.stream(thrown).map(Class::getSimpleName).toArray());
    }

    static void members() {
        String a = "IllegalArgumentException";
        String s = "IllegalStateException";
        String b = "IndexOutOfBoundsException";
        Map<String, String> face = new TreeMap<>();
        face.put("int call 6", "[" + a + ", " + s + "]");
        face.put("void delay 3", "[" + a + "]");
        face.put("int tick 1", "[" + a + "]");
        face.put("void crash 2", "[" + a + ", " + s + "]");
        face.put("int recover 1", "[" + a + ", " + s + "]");
        face.put("void start 1", "[" + a + ", " + s + "]");
        face.put("int result 2", "[" + a + "]");
        face.put("int history 2", "[" + b + ", " + a + "]");
        face.put("int word 2", "[" + b + "]");
        face.put("int cached 3", "[" + a + ", " + b + ", NoSuchElementException]");
        face.put("int lock 3", "[" + a + "]");
        face.put("int row 2", "[" + a + "]");
        face.put("int message 2", "[" + b + ", " + a + "]");
        face.put("int node 2", "[" + a + "]");
        face.put("int about 1", "[" + a + "]");
        Map<String, String> got = new TreeMap<>();
        for (Method m : ClusterShelf.class.getDeclaredMethods()) {
            if (!Modifier.isPrivate(m.getModifiers())) {
                due(m.getName() + " is public", Modifier.isPublic(m.getModifiers()), true);
                got.put(m.getReturnType() + " " + m.getName() + " " + m.getParameterCount(),
                        exceptions(m.getExceptionTypes()));
            }
        }
        due("the methods", got, face);
        for (Field f : ClusterShelf.class.getDeclaredFields()) {
            due(f.getName() + " is private or NONE", Modifier.isPrivate(f.getModifiers()), !f.getName().equals("NONE"));
            due(f.getName() + " is final if it is static",
                    Modifier.isFinal(f.getModifiers()) || !Modifier.isStatic(f.getModifiers()), true);
        }
        Constructor<?>[] made = ClusterShelf.class.getDeclaredConstructors();
        due("constructors", made.length, 1);
        due("the constructor", exceptions(made[0].getExceptionTypes()) + Modifier.isPublic(made[0].getModifiers()),
                "[]true");
        due("the class", Modifier.toString(ClusterShelf.class.getModifiers()), "public final");
        due("at most twelve classes", ClusterShelf.class.getDeclaredClasses().length <= 11, true);
        for (Class<?> c : ClusterShelf.class.getDeclaredClasses()) {
            due(c.getName() + " is private and static", Modifier.toString(c.getModifiers()), "private static final");
            int fields = 0;
            for (Field f : c.getDeclaredFields()) {
                fields += Modifier.isStatic(f.getModifiers()) ? 0 : 1;
            }
            due(c.getName() + " has few fields", fields <= 20, true);
            for (Method m : c.getDeclaredMethods()) {
                boolean bears = got.keySet().stream().anyMatch(k -> k.split(" ")[1].equals(m.getName()));
                due(c.getName() + "." + m.getName() + " bears a name of the face", bears, false);
                due(c.getName() + "." + m.getName() + " takes few parameters", m.getParameterCount() <= 7, true);
            }
        }
    }

    static void text() throws IOException {
        String source = Files.readString(Path.of("src/main/java/ClusterShelf.java"));
        for (String no : new String[] {"->", "::", "catch", "finally", "Exact(", "synchronized", "assert ", "goto",
            "System.out", "System.nano", "System.current", "Random", "Thread", "package ", "static {", "new ArrayList",
            "instanceof", "\t"}) {
            due("'" + no + "' is in the text", source.contains(no), false);
        }
        int imports = source.split("\nimport |^import ").length - 1;
        due("imports", imports, 2);
        due("signs are 1 to 127", source.chars().allMatch(c -> c > 0 && c < 128), true);
    }

    public static void main(String[] args) throws IOException {
        members();
        text();
        Due.end("face");
    }
}
