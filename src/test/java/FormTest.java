import java.lang.reflect.Constructor;
import java.lang.reflect.Field;
import java.lang.reflect.Method;
import java.lang.reflect.Modifier;
import java.nio.file.Files;
import java.nio.file.Path;
import java.util.Arrays;
import java.util.HashSet;
import java.util.List;
import java.util.Set;
import java.util.TreeSet;
import java.util.regex.Matcher;
import java.util.regex.Pattern;

/** The form of the program: the document's face and no more, the words LANGUAGE.md leaves, no waste of room. */
public final class FormTest {
    private static final List<String> FACE = Arrays.asList(
        "int all(int)", "int back()", "int best(int,int)", "int cell(int,int,int)", "int change(int)",
        "int copy(int,int,int,int,int)", "int count(int)", "int drawn(int)", "int feed(int)", "int film(int)",
        "int force(int)", "int front(int,int)", "int hat(int,int)", "int image()", "int passenger(int,int)",
        "int passengers(int,int,int,int)", "int ride(int,int)", "int set(int,int,int)", "int sheet(int,int,int)",
        "int sit(int,int)", "int stop(int,int)", "int taken(int,int)", "int tells(int,int)", "int text()",
        "int told(int,int)", "int watch(int)", "int who(int)", "long chance(int,int,int)");
    private static final List<String> CONSTANTS = Arrays.asList(
        "int BAD", "int FULL", "int NONE", "int STATE", "long NO");
    private static int wrong = 0;

    private static void must(boolean holds, String what) {
        if (!holds) {
            wrong++;
            System.out.println("form: " + what);
        }
    }

    public static void main(String[] args) throws Exception {
        face();
        source(Files.readString(Path.of("src/main/java/BackSeat.java")));
        room();
        System.out.println(wrong == 0 ? "FormTest: all as due" : "FormTest: " + wrong + " not as due");
        if (wrong != 0) {
            System.exit(1);
        }
    }

    private static void face() {
        Class<BackSeat> c = BackSeat.class;
        must(Modifier.isPublic(c.getModifiers()) && Modifier.isFinal(c.getModifiers()), "public and final");
        Set<String> methods = new TreeSet<>();
        Set<String> publicNames = new HashSet<>();
        for (Method m : c.getDeclaredMethods()) {
            if (Modifier.isPublic(m.getModifiers())) {
                methods.add(m.getReturnType() + " " + m.getName() + typesOf(m.getParameterTypes()));
                publicNames.add(m.getName());
            }
        }
        must(methods.equals(new TreeSet<>(FACE)), "the methods of the face: " + methods);
        for (Method m : c.getDeclaredMethods()) {
            boolean isPublic = Modifier.isPublic(m.getModifiers());
            must(isPublic || Modifier.isPrivate(m.getModifiers()), "public or private: " + m);
            must(isPublic || !publicNames.contains(m.getName()), "a private method with a public one's name: " + m);
        }
        Set<String> constants = new TreeSet<>();
        for (Field f : c.getDeclaredFields()) {
            boolean isPublic = Modifier.isPublic(f.getModifiers());
            must(isPublic || Modifier.isPrivate(f.getModifiers()), "public or private: " + f);
            must(!Modifier.isStatic(f.getModifiers()) || Modifier.isFinal(f.getModifiers()), "static, not final: " + f);
            if (isPublic) {
                constants.add(f.getType() + " " + f.getName());
            }
        }
        must(constants.equals(new TreeSet<>(CONSTANTS)), "the constants of the face: " + constants);
        Constructor<?>[] makers = c.getDeclaredConstructors();
        must(makers.length == 1 && Modifier.isPublic(makers[0].getModifiers()) && makers[0].getParameterCount() == 0,
            "the constructor");
        must(c.getDeclaredClasses().length < 12, "twelve classes at most");
        for (Class<?> inner : c.getDeclaredClasses()) {
            int mods = inner.getModifiers();
            must(Modifier.isStatic(mods) && !Modifier.isPublic(mods) && !Modifier.isProtected(mods), "static: " + inner);
            must(inner.getDeclaredFields().length <= 20, "twenty fields at most: " + inner);
        }
    }

    private static String typesOf(Class<?>[] types) {
        StringBuilder b = new StringBuilder("(");
        for (int i = 0; i < types.length; i++) {
            b.append(i > 0 ? "," : "").append(types[i]);
        }
        return b.append(')').toString();
    }

    private static void source(String text) {
        String code = text.replaceAll("(?s)/\\*.*?\\*/", "").replaceAll("//[^\n]*", "").replaceAll("\"[^\"\n]*\"", "\"\"");
        String[] words = {"throw", "throws", "try", "catch", "finally", "synchronized", "assert", "import", "package",
            "volatile", "transient", "native", "protected", "instanceof", "record", "Object", "System.out", "Thread",
            "Random", "Exception", "Error", "hashCode", "toString", "float", "double"};
        for (String word : words) {
            must(!Pattern.compile("\\b" + Pattern.quote(word) + "\\b").matcher(code).find(), "the word " + word);
        }
        must(!code.contains("->") && !code.contains("::"), "no lambda, no method reference");
        must(code.chars().allMatch(ch -> ch < 127), "signs 1 to 127");
        Matcher made = Pattern.compile("\\bnew\\b").matcher(code);
        while (made.find()) {
            String ahead = code.substring(0, made.start());
            must(isInConstructor(ahead), "made outside a constructor, in line " + ahead.split("\n", -1).length);
        }
        for (String method : code.split("\n\\s*\n")) {
            must(method.split("\n").length <= 60, "longer than 60 lines: " + method.trim().split("\n")[0]);
        }
    }

    /** Whether the last head of a method or constructor ahead is one without a type. */
    private static boolean isInConstructor(String ahead) {
        Matcher head = Pattern.compile("\n +((?:(?:public|private|static) )*)(\\w+(?:\\[\\])? )?(\\w+)\\([^()\n]*\\) \\{").matcher(ahead);
        boolean is = false;
        while (head.find()) {
            if (!Arrays.asList("if", "for", "while", "switch").contains(head.group(3)) && !"else ".equals(head.group(2))) {
                is = head.group(2) == null;
            }
        }
        return is;
    }

    /** After its constructor a BackSeat makes nothing: its calls live in the room that it has. */
    private static void room() {
        com.sun.management.ThreadMXBean bean =
            (com.sun.management.ThreadMXBean) java.lang.management.ManagementFactory.getThreadMXBean();
        BackSeat warm = new BackSeat();
        run(warm);
        BackSeat x = new BackSeat();
        long id = Thread.currentThread().getId();
        long before = bean.getThreadAllocatedBytes(id);
        run(x);
        long used = bean.getThreadAllocatedBytes(id) - before;
        must(used < 4096, "the calls of a run made " + used + " bytes");
    }

    private static void run(BackSeat x) {
        for (int i = 0; i < 8; i++) {
            x.passenger(i % 6, i);
            x.sit(i, 23 - i);
            x.set(3, i, (i + 1) % 8);
        }
        String text = "sounds 5 + (row * 2); turns mile - 3 < 4; joys not beside + friend;";
        for (int i = 0; i < text.length(); i++) {
            x.feed(text.charAt(i));
        }
        x.force(x.text());
        x.sheet(0, 0, 12);
        for (int i = 0; i < 6; i++) {
            x.cell(0, i, i);
            x.cell(0, 6 + i, 23 - i);
        }
        for (int k = 0; k < 10; k++) {
            x.hat(0, 1);
            x.best(k % 8, 1);
            x.change(1);
            x.watch(1);
            x.front(60, 1);
            x.stop(60, 1);
            x.film(1);
            x.tells(1, 2);
            x.tells(1, 30);
            x.copy(0, 0, 0, 1, 5);
            x.chance(k, 20, 0);
            x.image();
            x.back();
            x.all(1);
            x.ride(60, 0);
            x.passengers(0, 0, 0, 6);
            x.taken(0, 0);
        }
    }
}
