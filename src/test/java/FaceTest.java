import java.lang.reflect.Constructor;
import java.lang.reflect.Field;
import java.lang.reflect.Method;
import java.lang.reflect.Modifier;
import java.nio.file.Files;
import java.nio.file.Path;
import java.util.Set;
import java.util.TreeSet;
import java.util.regex.Matcher;
import java.util.regex.Pattern;

/** The class's face against 'The public face' of DOC.md and the line that each promise begins with. */
public final class FaceTest {
    private static int wrong = 0;

    private static void must(boolean holds, String what) {
        if (!holds) {
            wrong++;
            System.out.println("the public face: " + what);
        }
    }

    public static void main(String[] args) throws Exception {
        String doc = Files.readString(Path.of("../shared/DOC.md"));
        String face = writtenFace(doc);
        must(Modifier.toString(BackSeat.class.getModifiers()).equals("public final")
            && face.contains("public final class BackSeat {"), "public final class BackSeat");
        must(writtenConstants(face).equals(builtConstants()),
            "constants: written " + writtenConstants(face) + ", built " + builtConstants());
        must(writtenMethods(face).equals(builtMethods()),
            "methods: written " + writtenMethods(face) + ", built " + builtMethods());
        must(face.contains("public BackSeat();") && hasOneConstructor(), "the constructor");
        promisesSayTheSame(doc);
        System.out.println(wrong == 0 ? "FaceTest: all as due" : "FaceTest: " + wrong + " not as due");
        if (wrong != 0) {
            System.exit(1);
        }
    }

    private static String writtenFace(String doc) {
        Matcher m = Pattern.compile("## The public face\\s+```java\n(.*?)```", Pattern.DOTALL).matcher(doc);
        must(m.find(), "DOC.md writes out none");
        return m.group(1);
    }

    // ---- constants

    private static Set<String> writtenConstants(String face) {
        Set<String> all = new TreeSet<>();
        Matcher line = Pattern.compile("public static final (int|long) ([^;]*);").matcher(face);
        while (line.find()) {
            for (String one : line.group(2).split(",")) {
                all.add(line.group(1) + " " + one.trim().replaceAll("L$", ""));
            }
        }
        return all;
    }

    private static Set<String> builtConstants() throws IllegalAccessException {
        Set<String> all = new TreeSet<>();
        for (Field f : BackSeat.class.getFields()) {
            must(Modifier.toString(f.getModifiers()).equals("public static final"), "a constant: " + f);
            all.add(f.getType() + " " + f.getName() + " = " + f.get(null));
        }
        return all;
    }

    // ---- methods

    private static Set<String> writtenMethods(String face) {
        Set<String> all = new TreeSet<>();
        Matcher m = Pattern.compile("public (int|long) (\\w+)\\(([^)]*)\\);").matcher(face);
        while (m.find()) {
            all.add(m.group(1) + " " + m.group(2) + "(" + typesOnly(m.group(3)) + ")");
        }
        return all;
    }

    /** "int one, int seat" without the names. */
    private static String typesOnly(String parameters) {
        return parameters.trim().replaceAll("(\\w+) \\w+", "$1").replaceAll(",\\s*", ",");
    }

    private static Set<String> builtMethods() {
        Set<String> all = new TreeSet<>();
        for (Method m : BackSeat.class.getDeclaredMethods()) {
            if (Modifier.isPublic(m.getModifiers())) {
                must(!Modifier.isStatic(m.getModifiers()) && m.getExceptionTypes().length == 0, "a plain method: " + m);
                StringBuilder types = new StringBuilder();
                for (Class<?> type : m.getParameterTypes()) {
                    types.append(types.length() > 0 ? "," : "").append(type);
                }
                all.add(m.getReturnType() + " " + m.getName() + "(" + types + ")");
            }
        }
        return all;
    }

    private static boolean hasOneConstructor() {
        Constructor<?>[] all = BackSeat.class.getDeclaredConstructors();
        return all.length == 1 && Modifier.isPublic(all[0].getModifiers()) && all[0].getParameterCount() == 0;
    }

    // ---- promises

    private static void promisesSayTheSame(String doc) {
        Matcher m = Pattern.compile("## Promise (\\d+): (.*)\n\n`([^`]*)`: ").matcher(doc);
        int count = 0;
        while (m.find()) {
            count++;
            Set<String> said = writtenMethods("public " + m.group(3) + ";");
            boolean isConstructor = m.group(3).equals("BackSeat()");
            must(isConstructor || said.size() == 1 && builtMethods().containsAll(said),
                "promise " + m.group(1) + " tells " + m.group(3));
            must(m.group(1).equals(Integer.toString(count)), "promise " + count + " is left out");
        }
        must(count == 29, count + " promises, not 29");
    }
}
