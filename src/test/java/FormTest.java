import java.io.IOException;
import java.lang.reflect.Constructor;
import java.lang.reflect.Field;
import java.lang.reflect.Method;
import java.lang.reflect.Modifier;
import java.nio.file.Files;
import java.nio.file.Path;
import java.util.ArrayList;
import java.util.Arrays;
import java.util.HashSet;
import java.util.LinkedHashMap;
import java.util.List;
import java.util.Map;
import java.util.Set;
import java.util.TreeSet;
import java.util.regex.Matcher;
import java.util.regex.Pattern;

/** The form of the program: the thirteen rules of ../shared/LANGUAGE.md, as far as a test can see them. */
public final class FormTest {
    private static final List<String> FACE = Arrays.asList(
        "int all(int)", "int back()", "int best(int,int)", "int cell(int,int,int)", "int change(int)",
        "int copy(int,int,int,int,int)", "int count(int)", "int drawn(int)", "int feed(int)", "int film(int)",
        "int force(int)", "int front(int,int)", "int hat(int,int)", "int image()", "int passenger(int,int)",
        "int passengers(int,int,int,int)", "int ride(int,int)", "int set(int,int,int)", "int sheet(int,int,int)",
        "int sit(int,int)", "int stop(int,int)", "int taken(int,int)", "int tells(int,int)", "int text()",
        "int told(int,int)", "int watch(int)", "int who(int)", "long chance(int,int,int)");
    private static final List<String> CONSTANTS = Arrays.asList(
        "int BAD", "int FULL", "int NONE", "int STATE", "long NO");
    private static final Pattern LIBRARY = Pattern.compile("java/lang/Object\\.<init>|java/lang/System\\.arraycopy"
        + "|java/lang/String\\.(length|charAt|isEmpty|equals|indexOf|substring|toCharArray|<init>)"
        + "|java/lang/StringBuilder\\.(<init>|append|charAt|setCharAt|setLength|deleteCharAt|reverse|length|toString)"
        + "|java/util/(ArrayList|List)\\.(<init>|add|get|set|remove|size|isEmpty|clear|iterator|of)"
        + "|java/lang/(Integer|Long|Math)\\.(compare|max|min|abs|bitCount|floorDiv|floorMod|signum)"
        + "|java/util/Arrays\\.(copyOf|copyOfRange|fill)");

    private static final List<Class<?>> CLASSES = new ArrayList<>();
    private static final Map<String, Bytecode.Member> METHODS = new LinkedHashMap<>();
    private static int rule = 0;
    private static int wrong = 0;

    private static void must(boolean holds, String what) {
        if (!holds) {
            wrong++;
            System.out.println("rule " + rule + " of LANGUAGE.md: " + what);
        }
    }

    public static void main(String[] args) throws Exception {
        CLASSES.add(BackSeat.class);
        CLASSES.addAll(Arrays.asList(BackSeat.class.getDeclaredClasses()));
        for (Class<?> c : CLASSES) {
            for (Bytecode.Member m : Bytecode.of(c).methods) {
                METHODS.put(m.name, m);
            }
        }
        String code = bare(Files.readString(Path.of("src/main/java/BackSeat.java")));
        oneFaceAlone();
        staticClassesAlone(code);
        typesOfFields();
        libraryThatIsLeft();
        staticFieldsAreConstants();
        noExceptionsNoCasts(code);
        noCallThrows();
        recursionIsGuarded();
        loopsHaveBounds(code);
        noTextsJoinedByPlus(code);
        sizes(code);
        madeInConstructors();
        sameAnswersAgain(code);
        System.out.println(wrong == 0 ? "FormTest: all as due" : "FormTest: " + wrong + " not as due");
        if (wrong != 0) {
            System.exit(1);
        }
    }

    /** Without comments and what stands in quotes. */
    private static String bare(String text) {
        return text.replaceAll("(?s)/\\*.*?\\*/", "").replaceAll("//[^\n]*", "").replaceAll("\"[^\"\n]*\"", "\"\"")
            .replaceAll("'.'", "''");
    }

    private static boolean hasWord(String code, String word) {
        return Pattern.compile("\\b" + Pattern.quote(word) + "\\b").matcher(code).find();
    }

    // ---- rule 1

    private static void oneFaceAlone() {
        rule = 1;
        Class<BackSeat> c = BackSeat.class;
        must(c.getModifiers() == (Modifier.PUBLIC | Modifier.FINAL), "public and final");
        must(c.getPackageName().isEmpty(), "no package");
        Set<String> methods = new TreeSet<>();
        Set<String> publicNames = new HashSet<>();
        for (Method m : c.getDeclaredMethods()) {
            if (Modifier.isPublic(m.getModifiers())) {
                methods.add(m.getReturnType() + " " + m.getName() + typesOf(m.getParameterTypes()));
                publicNames.add(m.getName());
            }
        }
        must(methods.equals(new TreeSet<>(FACE)), "the methods of the face: " + methods);
        for (Class<?> any : CLASSES) {
            for (Method m : any.getDeclaredMethods()) {
                boolean isOfTheFace = any == c && Modifier.isPublic(m.getModifiers());
                must(isOfTheFace || any != c || Modifier.isPrivate(m.getModifiers()), "public or private: " + m);
                must(isOfTheFace || !publicNames.contains(m.getName()), "another method with a public one's name: " + m);
            }
        }
        Set<String> constants = new TreeSet<>();
        for (Field f : c.getDeclaredFields()) {
            boolean isPublic = Modifier.isPublic(f.getModifiers());
            must(isPublic || Modifier.isPrivate(f.getModifiers()), "public or private: " + f);
            if (isPublic) {
                constants.add(f.getType() + " " + f.getName());
            }
        }
        must(constants.equals(new TreeSet<>(CONSTANTS)), "the constants of the face: " + constants);
        Constructor<?>[] makers = c.getDeclaredConstructors();
        must(makers.length == 1 && Modifier.isPublic(makers[0].getModifiers()) && makers[0].getParameterCount() == 0,
            "the constructor");
    }

    private static String typesOf(Class<?>[] types) {
        StringBuilder b = new StringBuilder("(");
        for (int i = 0; i < types.length; i++) {
            b.append(i > 0 ? "," : "").append(types[i]);
        }
        return b.append(')').toString();
    }

    // ---- rule 2

    private static void staticClassesAlone(String code) {
        rule = 2;
        for (Class<?> inner : BackSeat.class.getDeclaredClasses()) {
            int mods = inner.getModifiers();
            must(Modifier.isStatic(mods) && !Modifier.isPublic(mods) && !Modifier.isProtected(mods), "static: " + inner);
            must(inner.getDeclaredClasses().length == 0, "no class further inside: " + inner);
        }
        for (int i = 1; i < 10; i++) {
            must(FormTest.class.getResource("/BackSeat$" + i + ".class") == null, "no class without a name");
        }
        must(!code.contains("->") && !code.contains("::"), "no lambda, no method reference");
    }

    // ---- rule 3

    private static void typesOfFields() throws IOException {
        rule = 3;
        for (Class<?> c : CLASSES) {
            for (String type : Bytecode.of(c).fields) {
                must(type.matches("\\[?[IJSBCZDF]|\\[\\[[IJSBCDF]|\\[?LBackSeat\\$\\w+;|Ljava/lang/String;"), "a field's type: " + type);
            }
        }
    }

    // ---- rule 4

    private static void libraryThatIsLeft() throws IOException {
        rule = 4;
        for (Bytecode.Member m : METHODS.values()) {
            for (String call : m.calls) {
                must(METHODS.containsKey(call) || LIBRARY.matcher(call).matches(), m.name + " calls " + call);
            }
        }
        String text = Files.readString(Path.of("src/main/java/BackSeat.java"));
        must(text.chars().allMatch(ch -> ch >= 1 && ch <= 127), "signs 1 to 127");
        must(!hasWord(bare(text), "import"), "no import");
    }

    // ---- rule 5

    private static void staticFieldsAreConstants() {
        rule = 5;
        for (Class<?> c : CLASSES) {
            for (Field f : c.getDeclaredFields()) {
                boolean isConstant = Modifier.isFinal(f.getModifiers())
                    && Arrays.asList("int", "long", "boolean", "char", "String").contains(f.getType().getSimpleName());
                must(!Modifier.isStatic(f.getModifiers()) || isConstant, "static, but no constant: " + f);
            }
            must(!METHODS.containsKey(c.getName() + ".<clinit>"), "no static initialiser: " + c);
        }
    }

    // ---- rule 6

    private static void noExceptionsNoCasts(String code) {
        rule = 6;
        for (Bytecode.Member m : METHODS.values()) {
            must(m.handlers == 0, "no catch: " + m.name);
            for (int op : new int[] {Bytecode.ATHROW, Bytecode.MONITORENTER, Bytecode.CHECKCAST, Bytecode.INVOKEDYNAMIC}) {
                must(!m.instructions.contains(op), "instruction " + op + " in " + m.name);
            }
            must(!m.name.matches(".*\\.(equals|hashCode|toString|finalize)"), "one's own " + m.name);
        }
        for (String word : new String[] {"throw", "throws", "try", "catch", "finally", "synchronized", "assert", "record"}) {
            must(!hasWord(code, word), "the word " + word);
        }
    }

    // ---- rule 7

    private static final int[] WILD = {Integer.MIN_VALUE, -1000, -2, -1, 0, 1, 2, 3, 5, 8, 12, 23, 24, 40, 41, 60, 100, 255,
        1000, Integer.MAX_VALUE - 1, Integer.MAX_VALUE};

    private static void noCallThrows() {
        rule = 7;
        long dice = 11;
        for (Method m : BackSeat.class.getDeclaredMethods()) {
            for (int k = 0; k < 6000 && Modifier.isPublic(m.getModifiers()); k++) {
                BackSeat x = k % 3 == 0 ? new BackSeat() : k % 3 == 1 ? Bounds.someCoach() : Bounds.fullCoach();
                for (int again = 0; again < 50; again++, k++) {
                    Object[] args = new Object[m.getParameterCount()];
                    for (int i = 0; i < args.length; i++) {
                        dice = dice * 6364136223846793005L + 1442695040888963407L;
                        args[i] = WILD[(int) ((dice >>> 33) % WILD.length)];
                    }
                    callOnce(m, x, args);
                }
            }
        }
    }

    private static void callOnce(Method m, BackSeat x, Object[] args) {
        try {
            m.invoke(x, args);
        } catch (ReflectiveOperationException e) {
            must(false, m.getName() + Arrays.toString(args) + " threw " + e.getCause());
        }
    }

    // ---- rule 8

    /** Only the reading of an E calls itself, and 5 open ( , not and - hold it. */
    private static void recursionIsGuarded() {
        rule = 8;
        for (String name : METHODS.keySet()) {
            boolean mayRecur = name.matches("BackSeat\\$Reader\\.read(Or|And|Not|Sum|Term|One)");
            must(mayRecur || !reaches(name, name, new HashSet<>()), name + " calls itself");
        }
        for (String opener : new String[] {"(", "-", "not ", "-(", "not(", "1 or (", "1 < (", "1 * -("}) {
            BackSeat x = new BackSeat();
            StringBuilder text = new StringBuilder("sounds ");
            while (text.length() < 150) {
                text.append(opener);
            }
            Bounds.feed(x, text.toString());
            must(x.text() <= -100, "160 bytes of " + opener);
        }
    }

    private static boolean reaches(String from, String to, Set<String> seen) {
        for (String call : METHODS.get(from).calls) {
            if (call.equals(to) || METHODS.containsKey(call) && seen.add(call) && reaches(call, to, seen)) {
                return true;
            }
        }
        return false;
    }

    // ---- rule 9

    private static void loopsHaveBounds(String code) {
        rule = 9;
        must(!hasWord(code, "do") && !code.contains("for (;;)") && !code.matches("(?s).*while \\(true\\).*"), "a loop without an end");
        Matcher loop = Pattern.compile("\\b(while|for) \\(([^\n]*)\\) \\{").matcher(code);
        while (loop.find()) {
            must(loop.group(2).contains("<") || loop.group(2).contains(">"), "no counter against a bound: " + loop.group());
        }
    }

    // ---- rule 10

    private static void noTextsJoinedByPlus(String code) {
        rule = 10;
        must(!code.contains("\"\" +") && !code.contains("+ \"\""), "texts joined by +");
    }

    // ---- rule 11

    private static void sizes(String code) {
        rule = 11;
        must(CLASSES.size() <= 12, "twelve classes at most");
        for (Class<?> c : CLASSES) {
            long fields = Arrays.stream(c.getDeclaredFields()).filter(f -> !Modifier.isStatic(f.getModifiers())).count();
            must(fields <= 20, "twenty fields at most: " + c);
        }
        for (Bytecode.Member m : METHODS.values()) {
            must(m.parameters <= 7, "seven parameters at most: " + m.name);
            must(depthOf(m.name, 0) <= 8, "eight deep at most: " + m.name + " goes " + depthOf(m.name, 0));
        }
        for (String method : code.split("\n\\s*\n")) {
            must(method.split("\n").length <= 60, "sixty lines at most: " + method.trim().split("\n")[0]);
        }
    }

    /** How many methods stand open at most, those that call themselves counted once together. */
    private static int depthOf(String name, int above) {
        if (above > 30) {
            return above;
        }
        int deepest = 0;
        for (String call : METHODS.get(name).calls) {
            if (METHODS.containsKey(call) && !isPartOfReading(call)) {
                deepest = Math.max(deepest, depthOf(call, above + 1));
            } else if (isPartOfReading(call) && !isPartOfReading(name)) {
                deepest = Math.max(deepest, depthOfReading(above + 1));
            }
        }
        return deepest + 1;
    }

    private static boolean isPartOfReading(String name) {
        return name.matches("BackSeat\\$Reader\\.read(Or|And|Not|Sum|Term|One)");
    }

    private static int depthOfReading(int above) {
        int deepest = 0;
        for (String name : METHODS.keySet()) {
            deepest = isPartOfReading(name) ? Math.max(deepest, depthOf(name, above)) : deepest;
        }
        return deepest;
    }

    // ---- rule 12

    private static void madeInConstructors() {
        rule = 12;
        for (Bytecode.Member m : METHODS.values()) {
            for (int op : new int[] {Bytecode.NEW, Bytecode.NEWARRAY, Bytecode.ANEWARRAY, Bytecode.MULTIANEWARRAY}) {
                must(m.name.endsWith(".<init>") || !m.instructions.contains(op), "made in " + m.name);
            }
        }
        com.sun.management.ThreadMXBean bean =
            (com.sun.management.ThreadMXBean) java.lang.management.ManagementFactory.getThreadMXBean();
        runAll(new BackSeat());
        BackSeat x = new BackSeat();
        long id = Thread.currentThread().getId();
        long before = bean.getThreadAllocatedBytes(id);
        runAll(x);
        long used = bean.getThreadAllocatedBytes(id) - before;
        must(used < 4096, "the calls of a run made " + used + " bytes");
    }

    private static void runAll(BackSeat x) {
        for (int i = 0; i < 8; i++) {
            x.passenger(i % 6, i);
            x.sit(i, 23 - i);
            x.set(3, i, (i + 1) % 8);
        }
        String text = "sounds 5 + (row * 2); turns mile - 3 < 4; joys not beside + friend;";
        for (int i = 0; i < text.length(); i++) {
            x.feed(text.charAt(i));
        }
        x.force(x.text());
        x.sheet(0, 0, 12);
        for (int i = 0; i < 6; i++) {
            x.cell(0, i, i);
            x.cell(0, 6 + i, 23 - i);
        }
        for (int k = 0; k < 10; k++) {
            x.hat(0, 1);
            x.best(k % 8, 1);
            x.change(1);
            x.watch(1);
            x.front(60, 1);
            x.stop(60, 1);
            x.film(1);
            x.tells(1, 2);
            x.tells(1, 30);
            x.copy(0, 0, 0, 1, 5);
            x.chance(k, 20, 0);
            x.image();
            x.back();
            x.all(1);
            x.ride(60, 0);
            x.passengers(0, 0, 0, 6);
            x.taken(0, 0);
        }
    }

    // ---- rule 13

    private static void sameAnswersAgain(String code) {
        rule = 13;
        for (String word : new String[] {"System.out", "System.nanoTime", "Thread", "Random", "native", "volatile"}) {
            must(!hasWord(code, word), "the word " + word);
        }
        must(Portrait.of(Bounds.someCoach()).equals(Portrait.of(Bounds.someCoach())), "the same calls, other answers");
    }
}
