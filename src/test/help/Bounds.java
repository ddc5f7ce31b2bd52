import java.io.IOException;
import java.lang.reflect.InvocationTargetException;
import java.lang.reflect.Method;
import java.lang.reflect.Modifier;
import java.nio.file.Files;
import java.nio.file.Path;
import java.util.List;

/**
 * What the bound tests share. Each of their methods without arguments is a test; it says first of
 * which promise and which sentence it is, and DOC.md must say that sentence there.
 */
abstract class Bounds {
    static final int MIN = Integer.MIN_VALUE, MAX = Integer.MAX_VALUE;
    static final int NONE = -1, BAD = -2, STATE = -3, FULL = -4;
    static final int NOTHING = -11, OUTSIDE = -12, UNLIKE = -13, BELOW = -14, REFUSED = -100000;
    static final int CHILD = 0, LOUD = 1, SICKLY = 2, TOM = 3, BABY = 4, TEACHER = 5;
    static final String FIRST_RULE = "sounds 5 + row ; turns row ; joys beside ;";

    private static int wrong = 0;
    private static int asked = 0;
    private static String place = "";

    interface Call {
        long on(BackSeat x);
    }

    interface Maker {
        BackSeat make();
    }

    // ---- running

    static void runAll(Class<?> tests) {
        int count = 0;
        for (Method test : tests.getDeclaredMethods()) {
            boolean isTest = Modifier.isStatic(test.getModifiers()) && test.getParameterCount() == 0 && !test.isSynthetic()
                && test.getReturnType() == void.class;
            if (isTest) {
                runOne(test);
                count++;
            }
        }
        String name = tests.getName();
        System.out.println(name + ": " + count + " tests, " + (wrong == 0 ? "all as due" : wrong + " not as due"));
        if (wrong != 0 || count == 0) {
            System.exit(1);
        }
    }

    private static void runOne(Method test) {
        place = "";
        asked = 0;
        try {
            test.setAccessible(true);
            test.invoke(null);
        } catch (InvocationTargetException e) {
            tell(test.getName() + " threw " + e.getCause());
        } catch (IllegalAccessException e) {
            tell(test.getName() + " can't be called");
        }
        if (place.isEmpty() || asked == 0) {
            tell(test.getName() + " says no sentence or asks nothing");
        }
    }

    private static void tell(String fault) {
        wrong++;
        System.out.println(place + ": " + fault);
    }

    /** Names the sentence of the document that is tested from here on. */
    static void says(int promise, String sentence) {
        place = "promise " + promise + ", '" + sentence + "'";
        if (!DocText.ofPromise(promise).contains(sentence) && !DocText.terms().contains(sentence)) {
            tell("DOC.md does not say so");
        }
    }

    static void due(String what, long got, long want) {
        asked++;
        if (got != want) {
            tell(what + " answered " + got + ", due is " + want);
        }
    }

    // ---- calls that change nothing: an object that got one is like an object that did not

    static void refuses(String what, Call call, long want) {
        changesNothing(Bounds::someCoach, what, call, want);
    }

    static void refusesOn(Maker maker, String what, Call call, long want) {
        changesNothing(maker, what, call, want);
    }

    /** For a call that is not refused, but only asks. */
    static void asks(String what, Call call, long want) {
        changesNothing(Bounds::someCoach, what, call, want);
    }

    static void asksOn(Maker maker, String what, Call call, long want) {
        changesNothing(maker, what, call, want);
    }

    private static void changesNothing(Maker maker, String what, Call call, long want) {
        BackSeat x = maker.make();
        due(what, call.on(x), want);
        List<String> mine = Portrait.of(x);
        List<String> other = Portrait.of(maker.make());
        for (int i = 0; i < mine.size(); i++) {
            if (!mine.get(i).equals(other.get(i))) {
                tell(what + " changed something: then " + mine.get(i) + ", not " + other.get(i));
                return;
            }
        }
    }

    /** An object with something in all that it holds: PASSENGERS, TEXTS, THE TAPE, SHEETS, AN IMAGE. */
    static BackSeat someCoach() {
        BackSeat x = coach(one(CHILD, 3, 8), one(TOM, 9, 9));
        x.set(3, 1, 0);
        x.image();
        x.passenger(TEACHER, 0);
        x.passenger(BABY, 4);
        x.sit(2, 20);
        rule(x, "sounds mile;turns 9;joys row;");
        x.set(0, 0, 12);
        x.set(1, 0, 20);
        x.set(3, 0, 1);
        x.set(3, 1, 2);
        feed(x, "sounds 7");
        row(x, 0, 0, 0, 1, 4, 5, 5, 9);
        row(x, 1, 1, 12, 29, 0, 0);
        row(x, 2, 2, 5, 1, 4, 2, 3, 3, 2, 4, 1, 5, 0, 6);
        return x;
    }

    /** The same with as many PASSENGERS as have room. */
    static BackSeat fullCoach() {
        BackSeat x = someCoach();
        for (int i = 4; i < 8; i++) {
            x.passenger(CHILD, i);
        }
        return x;
    }

    // ---- making

    /** PASSENGERS of the kinds, with NUMBERS as told, on the seats (NONE: they stand). */
    static BackSeat coach(int[]... kindNumberSeat) {
        BackSeat x = new BackSeat();
        for (int[] one : kindNumberSeat) {
            int number = x.passenger(one[0], one[1]);
            x.sit(number, one[2]);
        }
        return x;
    }

    static int[] one(int kind, int number, int seat) {
        return new int[] {kind, number, seat};
    }

    /** Empty SEATS and n PASSENGERS who stand. */
    static BackSeat standing(int n) {
        BackSeat x = new BackSeat();
        for (int i = 0; i < n; i++) {
            x.passenger(CHILD, i);
        }
        return x;
    }

    static void feed(BackSeat x, String text) {
        for (int i = 0; i < text.length(); i++) {
            x.feed(text.charAt(i));
        }
    }

    static int read(BackSeat x, String text) {
        feed(x, text);
        return x.text();
    }

    /** Makes a text THE RULE. */
    static BackSeat rule(BackSeat x, String text) {
        int number = read(x, text);
        if (number < 1) {
            tell("the text " + text + " answered " + number);
        }
        x.force(number);
        return x;
    }

    static BackSeat row(BackSeat x, int sheet, int sort, int... items) {
        x.sheet(sheet, sort, items.length);
        for (int i = 0; i < items.length; i++) {
            x.cell(sheet, i, items[i]);
        }
        return x;
    }

    // ---- the document

    /** The text of DOC.md, by its parts. */
    static final class DocText {
        private static final String ALL = read();

        private static String read() {
            try {
                return Files.readString(Path.of("../shared/DOC.md"));
            } catch (IOException e) {
                throw new IllegalStateException("no ../shared/DOC.md", e);
            }
        }

        static String terms() {
            return between("## Terms\n", "## Promise 1:");
        }

        static String ofPromise(int promise) {
            return between("## Promise " + promise + ":", promise == 29 ? "## Not promised" : "## Promise " + (promise + 1) + ":");
        }

        private static String between(String from, String to) {
            int at = ALL.indexOf(from);
            int end = ALL.indexOf(to);
            return at < 0 || end < at ? "" : ALL.substring(at, end);
        }
    }
}
