import java.util.ArrayList;
import java.util.Arrays;
import java.util.List;

/**
 * Long runs of calls, ordinary and wild, on a BackSeat and on a second, naive writing of the
 * document (class Model below, which shares no code with the program): all answers must be alike.
 */
public final class ModelTest {
    /** An object is used for 512 calls. */
    private static final int RUNS = 1500, CALLS = 512;

    public static void main(String[] args) {
        int wrong = 0;
        for (int run = 0; run < RUNS && wrong < 5; run++) {
            wrong += playRun(run);
        }
        System.out.println(wrong == 0 ? "ModelTest: all runs alike" : "ModelTest: " + wrong + " runs differ");
        if (wrong != 0) {
            System.exit(1);
        }
    }

    private static int playRun(int run) {
        Dice dice = new Dice(run * 7919L + 17);
        BackSeat seat = new BackSeat();
        Model model = new Model();
        List<String> log = new ArrayList<>();
        int calls = 0;
        while (calls < CALLS) {
            List<int[]> next = Player.nextCalls(dice, model);
            for (int[] call : next.subList(0, Math.min(next.size(), CALLS - calls))) {
                calls++;
                long due = model.answer(call);
                long got;
                try {
                    got = Player.answer(seat, call);
                } catch (RuntimeException | StackOverflowError e) {
                    System.out.println("run " + run + ": " + Player.show(call) + " threw " + e);
                    return 1;
                }
                log.add(Player.show(call) + " = " + got);
                if (got != due) {
                    tell(run, log, due);
                    return 1;
                }
            }
        }
        return 0;
    }

    private static void tell(int run, List<String> log, long due) {
        int from = Math.max(0, log.size() - 40);
        System.out.println("run " + run + ", .. " + from + " calls more ..");
        for (int i = from; i < log.size(); i++) {
            System.out.println("  " + log.get(i));
        }
        System.out.println("  the model says " + due);
    }

    /** Numbers that look thrown, the same in each run of the test. */
    static final class Dice {
        private long state;

        Dice(long seed) {
            state = seed;
        }

        int below(int n) {
            state = state * 6364136223846793005L + 1442695040888963407L;
            return (int) ((state >>> 33) % n);
        }

        boolean oneIn(int n) {
            return below(n) == 0;
        }

        int from(int least, int most) {
            return least + below(most - least + 1);
        }

        /** Mostly within, sometimes at the edges or far outside. */
        int about(int least, int most) {
            if (!oneIn(14)) {
                return from(least, most);
            }
            int[] wild = {least - 1, most + 1, least, most, Integer.MIN_VALUE, Integer.MAX_VALUE, -1, 0,
                most + 2, least - 2, Integer.MAX_VALUE - 1, 1 << 31 - 1};
            return wild[below(wild.length)];
        }
    }

    /** A call is {which, arguments ..}; which is the method's place in the face. */
    static final class Player {
        private static final String[] NAMES = {"set", "passenger", "sit", "told", "who", "feed", "text",
            "force", "all", "ride", "best", "change", "watch", "hat", "front", "stop", "tells", "film",
            "drawn", "chance", "image", "back", "count", "sheet", "cell", "copy", "passengers", "taken"};

        static String show(int[] call) {
            StringBuilder b = new StringBuilder(NAMES[call[0]]).append('(');
            for (int i = 1; i < call.length; i++) {
                b.append(i > 1 ? ", " : "").append(call[i]);
            }
            return b.append(')').toString();
        }

        static int[] call(String name, int... args) {
            int[] call = new int[args.length + 1];
            call[0] = Arrays.asList(NAMES).indexOf(name);
            System.arraycopy(args, 0, call, 1, args.length);
            return call;
        }

        static long answer(BackSeat x, int[] c) {
            switch (NAMES[c[0]]) {
                case "set": return x.set(c[1], c[2], c[3]);
                case "passenger": return x.passenger(c[1], c[2]);
                case "sit": return x.sit(c[1], c[2]);
                case "told": return x.told(c[1], c[2]);
                case "who": return x.who(c[1]);
                case "feed": return x.feed(c[1]);
                case "text": return x.text();
                case "force": return x.force(c[1]);
                case "all": return x.all(c[1]);
                case "ride": return x.ride(c[1], c[2]);
                case "best": return x.best(c[1], c[2]);
                case "change": return x.change(c[1]);
                case "watch": return x.watch(c[1]);
                case "hat": return x.hat(c[1], c[2]);
                case "front": return x.front(c[1], c[2]);
                case "stop": return x.stop(c[1], c[2]);
                case "tells": return x.tells(c[1], c[2]);
                case "film": return x.film(c[1]);
                case "drawn": return x.drawn(c[1]);
                case "chance": return x.chance(c[1], c[2], c[3]);
                case "image": return x.image();
                case "back": return x.back();
                case "count": return x.count(c[1]);
                case "sheet": return x.sheet(c[1], c[2], c[3]);
                case "cell": return x.cell(c[1], c[2], c[3]);
                case "copy": return x.copy(c[1], c[2], c[3], c[4], c[5]);
                case "passengers": return x.passengers(c[1], c[2], c[3], c[4]);
                default: return x.taken(c[1], c[2]);
            }
        }

        static List<int[]> nextCalls(Dice d, Model m) {
            List<int[]> calls = new ArrayList<>();
            int most = Math.max(0, m.people.size() - 1);
            switch (d.below(34)) {
                case 0: calls.add(call("set", 0, d.about(0, 7), d.about(0, 99))); break;
                case 1: calls.add(call("set", 1, d.about(0, 7), d.oneIn(2) ? d.about(0, 60) : d.about(0, 999))); break;
                case 2: calls.add(call("set", 2, d.about(0, most), d.about(0, 9))); break;
                case 3: calls.add(call("set", d.about(0, 3), d.about(0, most), d.about(-1, most))); break;
                case 4: calls.add(call("set", 3, d.about(0, most), d.about(-1, most))); break;
                case 5: case 6: calls.add(call("passenger", d.about(0, 5), d.about(0, 9))); break;
                case 7: case 8: calls.add(call("sit", d.about(0, most), d.about(-1, 23))); break;
                case 9: calls.add(call("sit", d.about(0, most), d.from(20, 23))); break;
                case 10: for (int w = 0; w < 10; w++) calls.add(call("told", d.about(0, most), w)); break;
                case 11: calls.add(call("told", d.about(0, most), d.about(0, 9)));
                    calls.add(call("who", d.about(0, 23))); break;
                case 12: feedText(d, calls); break;
                case 13: calls.add(call("force", d.about(0, 5))); break;
                case 14: calls.add(call("all", 0)); calls.add(call("all", 1)); calls.add(call("all", d.about(0, 2))); break;
                case 15: { int n = d.about(0, 60);
                    calls.add(call("ride", n, 0)); calls.add(call("ride", n, 1));
                    calls.add(call("ride", n, 10 + d.about(0, most))); calls.add(call("ride", n, 20 + d.about(0, most)));
                    calls.add(call("ride", n, d.about(-1, 31))); break; }
                case 16: { int one = d.about(0, most);
                    calls.add(call("best", one, 0)); calls.add(call("best", one, d.about(0, 1))); break; }
                case 17: calls.add(call("change", 0)); calls.add(call("change", d.about(0, 1))); break;
                case 18: case 19: calls.add(call("watch", 0)); calls.add(call("watch", d.about(0, 1))); break;
                case 20: drawFromHat(d, m, calls); break;
                case 21: { int n = d.about(0, 60);
                    calls.add(call("front", n, 0)); calls.add(call("front", n, d.about(0, 1))); break; }
                case 22: { int n = d.about(0, 60);
                    calls.add(call("stop", n, 0)); calls.add(call("stop", n, d.about(0, 1))); break; }
                case 23: case 24: tellNoises(d, m, calls); break;
                case 25: calls.add(call("film", d.about(0, 3))); break;
                case 26: calls.add(call("drawn", d.about(-100, 100))); break;
                case 27: { int seed = d.about(-1000, 1000); int n = d.about(1, 20);
                    calls.add(call("chance", seed, n, 0)); calls.add(call("chance", seed, n, 1));
                    calls.add(call("chance", seed, n, d.about(0, 1))); break; }
                case 28: calls.add(call(d.oneIn(2) ? "image" : "back")); break;
                case 29: for (int w = -1; w < 6; w++) calls.add(call("count", w)); break;
                case 30: calls.add(call("sheet", d.about(0, 3), d.about(-1, 2), d.oneIn(2) ? d.about(0, 8) : d.about(0, 40)));
                    calls.add(call("cell", d.about(0, 3), d.about(0, 8), d.about(-300, 300))); break;
                case 31: calls.add(call("copy", d.about(0, 3), d.about(0, 5), d.about(0, 3), d.about(0, 5), d.about(0, 6))); break;
                case 32: bringPassengers(d, calls); break;
                default: calls.add(call("taken", d.about(0, most), d.about(0, 5))); break;
            }
            return calls;
        }

        private static void bringPassengers(Dice d, List<int[]> calls) {
            int sheet = d.from(0, 3);
            int sort = d.from(0, 2);
            int size = d.from(0, 12);
            calls.add(call("sheet", sheet, sort, size));
            for (int i = 0; i < size; i++) {
                calls.add(call("cell", sheet, i, d.about(0, i % 2 == 0 ? 5 : 9)));
            }
            calls.add(call("passengers", sheet, d.oneIn(8) ? d.about(0, 2) : sort, d.about(0, 4), d.about(0, 8)));
            calls.add(call("count", 0));
        }

        private static void drawFromHat(Dice d, Model m, List<int[]> calls) {
            int sheet = d.from(0, 3);
            int k = d.from(1, Math.max(1, Math.min(6, m.people.size())));
            calls.add(call("sheet", sheet, d.from(0, 2), d.oneIn(10) ? d.about(0, 16) : 2 * k));
            int firstOne = d.below(Math.max(1, m.people.size()));
            int firstSeat = d.oneIn(2) ? d.from(16, 23) : d.below(24);
            for (int i = 0; i < k; i++) {
                int one = d.oneIn(10) ? d.about(0, 7) : (firstOne + i) % Math.max(1, m.people.size());
                int own = one >= 0 && one < m.people.size() ? m.people.get(one).seat : -1;
                int seat = d.oneIn(20) ? d.about(0, 23) : d.oneIn(3) && own >= 0 ? own : (firstSeat + i) % 24;
                calls.add(call("cell", sheet, i, one));
                calls.add(call("cell", sheet, k + i, seat));
            }
            calls.add(call("hat", sheet, 0));
            calls.add(call("hat", sheet, d.oneIn(8) ? d.about(0, 1) : 1));
        }

        private static void tellNoises(Dice d, Model m, List<int[]> calls) {
            int sheet = d.about(0, 3);
            if (d.oneIn(3)) {
                calls.add(call("film", sheet));
            } else {
                calls.add(call("sheet", sheet, d.from(0, 2), d.oneIn(12) ? d.about(0, 8) : m.people.size()));
                for (int i = 0; i < m.people.size(); i++) {
                    calls.add(call("cell", sheet, i, m.noise(i)));
                }
            }
            if (d.oneIn(2)) {
                calls.add(call("cell", sheet, d.about(0, 7), d.from(0, 30)));
            }
            if (d.oneIn(2)) {
                int one = d.about(0, 7);
                calls.add(call("sit", one, d.about(0, 23)));
            }
            for (int w = 0; w < 4; w++) {
                calls.add(call("tells", sheet, w));
            }
            for (int w = 1; w < 4; w++) {
                calls.add(call("tells", sheet, 10 * w + d.about(0, Math.max(0, m.people.size() - 1))));
            }
            calls.add(call("tells", sheet, d.about(-1, 40)));
        }

        private static void feedText(Dice d, List<int[]> calls) {
            StringBuilder b = new StringBuilder();
            int size = d.oneIn(3) ? 2 : 1;
            b.append("sounds ");
            Writer.or(d, b, size + d.below(2));
            b.append(";turns");
            Writer.or(d, b.append(' '), size);
            b.append(d.oneIn(2) ? ";\njoys " : " ; joys\n");
            Writer.or(d, b, size);
            b.append(';');
            if (d.oneIn(3)) {
                Writer.spoil(d, b);
            }
            for (int i = 0; i < b.length() && i < 165; i++) {
                calls.add(call("feed", b.charAt(i)));
            }
            if (d.oneIn(5)) {
                calls.add(call("feed", d.about(0, 255)));
            }
            calls.add(call("count", 3));
            calls.add(call("text"));
            calls.add(call("count", 3));
            calls.add(call("force", d.below(6)));
        }
    }

    /** Writes texts by the grammar, each as deep as told. */
    static final class Writer {
        private static final String[] NAMES = {"row", "column", "mile", "number", "beside", "friend"};
        private static final String[] BITS = {" ", "\n", "#", "or", "and", "not", "12345", "00012", "(", ")", "-",
            "<", "=", ";", "sounds", "rows", "x", "A", "9999", "\t", "{", "`", "/", ":", ",", "((((((", "------",
            "not not not not not not ", "-(-(-(1))) ", "(((((1))))) ", "\u00ff", "\u0000"};

        static void or(Dice d, StringBuilder b, int deep) {
            and(d, b, deep);
            while (d.oneIn(6)) {
                and(d, b.append(" or "), deep);
            }
        }

        private static void and(Dice d, StringBuilder b, int deep) {
            not(d, b, deep);
            while (d.oneIn(6)) {
                not(d, b.append(" and "), deep);
            }
        }

        private static void not(Dice d, StringBuilder b, int deep) {
            if (d.oneIn(9)) {
                not(d, b.append("not "), deep);
                return;
            }
            sum(d, b, deep);
            if (d.oneIn(5)) {
                sum(d, b.append(d.oneIn(2) ? "<" : " = "), deep);
            }
        }

        private static void sum(Dice d, StringBuilder b, int deep) {
            term(d, b, deep);
            while (d.oneIn(3)) {
                term(d, b.append(d.oneIn(2) ? "+" : "-"), deep);
            }
        }

        private static void term(Dice d, StringBuilder b, int deep) {
            one(d, b, deep);
            while (d.oneIn(4)) {
                one(d, b.append("*"), deep);
            }
        }

        private static void one(Dice d, StringBuilder b, int deep) {
            int which = d.below(9);
            if (which == 0) {
                one(d, b.append('-'), deep);
            } else if (which <= 2 && deep > 0) {
                or(d, b.append('('), deep - 1);
                b.append(')');
            } else if (which <= 5) {
                b.append(NAMES[d.below(NAMES.length)]);
            } else {
                b.append(d.oneIn(8) ? d.below(10000) : d.oneIn(4) ? d.below(120) : d.below(12));
            }
        }

        static void spoil(Dice d, StringBuilder b) {
            int at = d.below(b.length() + 1);
            if (d.oneIn(2)) {
                b.insert(at, BITS[d.below(BITS.length)]);
            } else if (d.oneIn(2)) {
                b.setLength(at);
            } else {
                b.delete(at, Math.min(b.length(), at + 1 + d.below(3)));
            }
        }
    }

    // ---- the naive model

    static final class Fault extends RuntimeException {
        private static final long serialVersionUID = 1L;
        final int place;

        Fault(int place) {
            this.place = place;
        }
    }

    interface Node {
        int of(int[] facts);
    }

    /** Reads a whole text to three trees; throws a Fault. */
    static final class Grammar {
        private static final List<String> NAMES = Arrays.asList("row", "column", "mile", "number", "beside", "friend");
        private final String s;
        private int at;
        private int depth;

        Grammar(String s) {
            this.s = s;
        }

        Node[] whole() {
            Node[] parts = new Node[3];
            String[] keys = {"sounds", "turns", "joys"};
            for (int i = 0; i < 3; i++) {
                must(keys[i]);
                parts[i] = or();
                must(";");
            }
            must("");
            return parts;
        }

        /** Where the next token begins. */
        private int begin() {
            int i = at;
            while (i < s.length() && (s.charAt(i) == ' ' || s.charAt(i) == '\n')) {
                i++;
            }
            return i;
        }

        /** The next token; "" at the end; "?" if it is none. */
        private String peek() {
            String rest = s.substring(begin());
            if (rest.isEmpty()) {
                return "";
            }
            java.util.regex.Matcher m = java.util.regex.Pattern.compile("[a-z]+|[0-9]+|[();+*<=-]").matcher(rest);
            if (!m.lookingAt()) {
                return "?";
            }
            return Character.isDigit(m.group().charAt(0)) && m.group().length() > 4 ? "?" : m.group();
        }

        private void skip() {
            at = begin() + peek().length();
        }

        private boolean eat(String token) {
            if (!peek().equals(token)) {
                return false;
            }
            skip();
            return true;
        }

        private void must(String token) {
            if (!eat(token)) {
                throw new Fault(begin());
            }
        }

        private void open() {
            if (depth == 5) {
                throw new Fault(begin());
            }
            depth++;
        }

        private Node or() {
            Node left = and();
            while (eat("or")) {
                Node a = left;
                Node b = and();
                left = f -> (a.of(f) != 0) | (b.of(f) != 0) ? 1 : 0;
            }
            return left;
        }

        private Node and() {
            Node left = not();
            while (eat("and")) {
                Node a = left;
                Node b = not();
                left = f -> (a.of(f) != 0) & (b.of(f) != 0) ? 1 : 0;
            }
            return left;
        }

        private Node not() {
            if (peek().equals("not")) {
                open();
                skip();
                Node a = not();
                depth--;
                return f -> a.of(f) == 0 ? 1 : 0;
            }
            Node a = sum();
            if (eat("<")) {
                Node b = sum();
                return f -> a.of(f) < b.of(f) ? 1 : 0;
            }
            if (eat("=")) {
                Node b = sum();
                return f -> a.of(f) == b.of(f) ? 1 : 0;
            }
            return a;
        }

        private Node sum() {
            Node left = term();
            while (true) {
                Node a = left;
                if (eat("+")) {
                    Node b = term();
                    left = f -> a.of(f) + b.of(f);
                } else if (eat("-")) {
                    Node b = term();
                    left = f -> a.of(f) - b.of(f);
                } else {
                    return left;
                }
            }
        }

        private Node term() {
            Node left = one();
            while (eat("*")) {
                Node a = left;
                Node b = one();
                left = f -> a.of(f) * b.of(f);
            }
            return left;
        }

        private Node one() {
            String t = peek();
            if (t.equals("-")) {
                open();
                skip();
                Node a = one();
                depth--;
                return f -> -a.of(f);
            }
            if (t.equals("(")) {
                open();
                skip();
                Node a = or();
                must(")");
                depth--;
                return a;
            }
            if (NAMES.contains(t)) {
                skip();
                int i = NAMES.indexOf(t);
                return f -> f[i];
            }
            if (!t.isEmpty() && Character.isDigit(t.charAt(0))) {
                skip();
                int v = Integer.parseInt(t);
                return f -> v;
            }
            throw new Fault(begin());
        }
    }

    /** What one of a KIND makes of v; each under another takes what that one makes. */
    static class Child {
        int noise(int v, int row, int number, boolean watched) { return v; }
        int queasy(int v, int row) { return v; }
        int glad(int v, int row, boolean friend) { return friend ? v + 10 : v; }
    }

    static class Loud extends Child {
        int noise(int v, int row, int number, boolean watched) { return 2 * super.noise(v, row, number, watched) + (row == 5 ? number : 0); }
        int glad(int v, int row, boolean friend) { return super.glad(v, row, friend) + (row == 5 ? 5 : 0); }
    }

    static class Sickly extends Child {
        int noise(int v, int row, int number, boolean watched) { return super.noise(v, row, number, watched) / 2; }
        int queasy(int v, int row) { return 2 * super.queasy(v, row) + row; }
        int glad(int v, int row, boolean friend) { return super.glad(v, row, friend) - row; }
    }

    static class Tom extends Loud {
        int noise(int v, int row, int number, boolean watched) { return watched ? 0 : super.noise(v, row, number, watched) + 5; }
        int queasy(int v, int row) { return row == 5 ? 0 : super.queasy(v, row); }
        int glad(int v, int row, boolean friend) { return 2 * super.glad(v, row, friend); }
    }

    static class Baby extends Sickly {
        int noise(int v, int row, int number, boolean watched) { return super.noise(v, row, number, watched) + number; }
        int queasy(int v, int row) { return super.queasy(v, row) / 2; }
        int glad(int v, int row, boolean friend) { return 3; }
    }

    static class Teacher extends Child {
        int noise(int v, int row, int number, boolean watched) { return 0; }
        int queasy(int v, int row) { return 0; }
        int glad(int v, int row, boolean friend) { return 0 - v; }
    }

    static final class Person {
        int kind;
        int number;
        int friend = -1;
        int seat = -1;

        Person(int kind, int number) {
            this.kind = kind;
            this.number = number;
        }

        Person same() {
            Person p = new Person(kind, number);
            p.friend = friend;
            p.seat = seat;
            return p;
        }
    }

    static final class Model {
        private static final Child[] KINDS = {new Child(), new Loud(), new Sickly(), new Tom(), new Baby(), new Teacher()};
        private static final int R = -100000;
        int mile;
        int limit = 50;
        int rule;
        List<Person> people = new ArrayList<>();
        final List<Node[]> texts = new ArrayList<>();
        final StringBuilder tape = new StringBuilder();
        final int[][] sheets = new int[4][];
        final int[] sorts = new int[4];
        int keptMile;
        int keptLimit;
        int keptRule;
        List<Person> keptPeople;

        Model() {
            texts.add(new Grammar("sounds 5 + row ; turns row ; joys beside ;").whole());
        }

        long answer(int[] c) {
            switch (Player.NAMES[c[0]]) {
                case "set": return set(c[1], c[2], c[3]);
                case "passenger": return come(c[1], c[2]);
                case "sit": return sit(c[1], c[2]);
                case "told": return told(c[1], c[2]);
                case "who": return c[1] < 0 || c[1] > 23 ? -2 : who(c[1]);
                case "feed": return feed(c[1]);
                case "text": return text();
                case "force": return force(c[1]);
                case "all": return c[1] == 0 ? din() : c[1] == 1 ? joy() : c[1] == 2 ? alone() : R;
                case "ride": return ride(c[1], c[2]);
                case "best": return best(c[1], c[2]);
                case "change": return change(c[1]);
                case "watch": return watch(c[1]);
                case "hat": return hat(c[1], c[2]);
                case "front": return front(c[1], c[2]);
                case "stop": return stop(c[1], c[2]);
                case "tells": return tells(c[1], c[2]);
                case "film": return film(c[1]);
                case "drawn": return drawn(c[1]);
                case "chance": return chance(c[1], c[2], c[3]);
                case "image": keptMile = mile; keptLimit = limit; keptRule = rule; keptPeople = same(people); return people.size();
                case "back": return back();
                case "count": return count(c[1]);
                case "sheet": return sheet(c[1], c[2], c[3]);
                case "cell": return cell(c[1], c[2], c[3]);
                case "copy": return copy(c[1], c[2], c[3], c[4], c[5]);
                case "passengers": return bring(c[1], c[2], c[3], c[4]);
                default: return taken(c[1], c[2]);
            }
        }

        private static List<Person> same(List<Person> those) {
            List<Person> copy = new ArrayList<>();
            for (Person p : those) {
                copy.add(p.same());
            }
            return copy;
        }

        private boolean no(int one) {
            return one < 0 || one >= people.size();
        }

        private static boolean out(int v, int least, int most) {
            return v < least || v > most;
        }

        private int set(int what, int of, int v) {
            int was;
            switch (what) {
                case 0:
                    if (out(v, 0, 99)) return -2;
                    was = mile; mile = v; return was;
                case 1:
                    if (out(v, 0, 999)) return -2;
                    was = limit; limit = v; return was;
                case 2:
                    if (no(of) || out(v, 0, 9)) return -2;
                    was = people.get(of).number; people.get(of).number = v; return was;
                case 3:
                    if (no(of) || v != -1 && no(v) || v == of) return -2;
                    was = people.get(of).friend; people.get(of).friend = v; return was;
                default: return -2;
            }
        }

        private int come(int kind, int number) {
            if (out(kind, 0, 5) || out(number, 0, 9)) return -2;
            if (people.size() == 8) return -4;
            people.add(new Person(kind, number));
            return people.size() - 1;
        }

        private int who(int seat) {
            for (int i = 0; i < people.size(); i++) {
                if (people.get(i).seat == seat) return i;
            }
            return -1;
        }

        private int sit(int one, int seat) {
            if (no(one) || out(seat, -1, 23)) return -2;
            if (seat >= 0 && who(seat) >= 0 && who(seat) != one) return -3;
            int was = people.get(one).seat;
            people.get(one).seat = seat;
            return was;
        }

        private static boolean beside(Person p, Person q) {
            if (p == q || p.seat < 0 || q.seat < 0 || p.seat / 4 != q.seat / 4) return false;
            int a = Math.min(p.seat % 4, q.seat % 4);
            int b = Math.max(p.seat % 4, q.seat % 4);
            return a == 0 && b == 1 || a == 2 && b == 3 || p.seat / 4 == 5 && a == 1 && b == 2;
        }

        private int besides(Person p) {
            int n = 0;
            for (Person q : people) {
                if (beside(p, q)) n++;
            }
            return n;
        }

        private boolean watched(Person p) {
            for (Person q : people) {
                if (q.kind == 5 && beside(p, q)) return true;
            }
            return false;
        }

        private boolean byFriend(Person p) {
            return p.friend >= 0 && beside(p, people.get(p.friend));
        }

        private int value(int part, Person p, int inMile) {
            int[] facts = {p.seat / 4, p.seat % 4, inMile, p.number, besides(p), byFriend(p) ? 1 : 0};
            int v = texts.get(rule)[part].of(facts);
            return Math.max(part == 2 ? -99 : 0, Math.min(99, v));
        }

        int noise(int one) {
            Person p = people.get(one);
            if (p.seat < 0) return 0;
            return Math.max(0, Math.min(999, KINDS[p.kind].noise(value(0, p, mile), p.seat / 4, p.number, watched(p))));
        }

        private int queasy(int one, int inMile) {
            Person p = people.get(one);
            if (p.seat < 0) return 0;
            return Math.max(0, Math.min(99, KINDS[p.kind].queasy(value(1, p, inMile), p.seat / 4)));
        }

        private int glad(int one) {
            Person p = people.get(one);
            return p.seat < 0 ? 0 : KINDS[p.kind].glad(value(2, p, mile), p.seat / 4, byFriend(p));
        }

        private int din() {
            int sum = 0;
            for (int i = 0; i < people.size(); i++) sum += noise(i);
            return sum;
        }

        private int joy() {
            int sum = 0;
            for (int i = 0; i < people.size(); i++) sum += glad(i);
            return sum;
        }

        private int alone() {
            int n = 0;
            for (Person p : people) {
                if (p.seat >= 0 && besides(p) == 0) n++;
            }
            return n;
        }

        private int told(int of, int what) {
            if (what == 0) return mile;
            if (what == 1) return limit;
            if (no(of)) return -2;
            Person p = people.get(of);
            switch (what) {
                case 2: return p.number;
                case 3: return p.friend;
                case 4: return p.kind;
                case 5: return p.seat;
                case 6: return noise(of);
                case 7: return queasy(of, mile);
                case 8: return besides(p);
                case 9: return watched(p) ? 1 : 0;
                default: return -2;
            }
        }

        private int feed(int letter) {
            if (out(letter, 0, 255)) return -2;
            if (tape.length() == 160) return -4;
            tape.append((char) letter);
            return tape.length();
        }

        private int text() {
            if (texts.size() == 6) return -4;
            String s = tape.toString();
            tape.setLength(0);
            try {
                texts.add(new Grammar(s).whole());
                return texts.size() - 1;
            } catch (Fault f) {
                return -100 - f.place;
            }
        }

        private int force(int text) {
            if (out(text, 0, texts.size() - 1)) return -2;
            int was = rule;
            rule = text;
            return was;
        }

        /** For each of the people, the MILES in which one is SICK. */
        private List<List<Integer>> sickness(int n, int stop) {
            List<List<Integer>> all = new ArrayList<>();
            for (int i = 0; i < people.size(); i++) {
                List<Integer> mine = new ArrayList<>();
                int has = 0;
                for (int k = 0; k < n; k++) {
                    has += queasy(i, mile + k);
                    if (has > limit) {
                        mine.add(k);
                        has = 0;
                    }
                    if (k == stop) has = 0;
                }
                all.add(mine);
            }
            return all;
        }

        private int sick(int n, int stop) {
            int sum = 0;
            for (List<Integer> mine : sickness(n, stop)) sum += mine.size();
            return sum;
        }

        private int ride(int n, int what) {
            if (out(n, 0, 60)) return -2;
            List<List<Integer>> all = sickness(n, -1);
            if (what == 0) return sick(n, -1);
            if (what == 1) {
                int first = -1;
                for (int i = 0; i < all.size(); i++) {
                    if (!all.get(i).isEmpty() && (first < 0 || all.get(i).get(0) < all.get(first).get(0))) first = i;
                }
                return first;
            }
            if (!out(what, 10, 19) && !no(what - 10)) return all.get(what - 10).isEmpty() ? -1 : all.get(what - 10).get(0);
            if (!out(what, 20, 29) && !no(what - 20)) return all.get(what - 20).size();
            return -2;
        }

        private int best(int one, int what) {
            if (no(one) || out(what, 0, 1)) return -2;
            int was = people.get(one).seat;
            int best = -1;
            int least = Integer.MAX_VALUE;
            for (int s = 0; s < 24; s++) {
                people.get(one).seat = was;
                if (who(s) >= 0 && who(s) != one) continue;
                people.get(one).seat = s;
                if (din() < least) {
                    least = din();
                    best = s;
                }
            }
            people.get(one).seat = was;
            return what == 0 ? best : least;
        }

        private int dinSwapped(Person p, Person q) {
            int a = p.seat;
            int b = q.seat;
            p.seat = b;
            q.seat = a;
            int din = din();
            p.seat = a;
            q.seat = b;
            return din;
        }

        private int change(int what) {
            if (out(what, 0, 1)) return -2;
            int best = -1;
            int least = din();
            for (int i = 0; i < people.size(); i++) {
                for (int j = i + 1; j < people.size(); j++) {
                    if (people.get(i).seat < 0 || people.get(j).seat < 0) continue;
                    int d = dinSwapped(people.get(i), people.get(j));
                    if (d < least) {
                        least = d;
                        best = 10 * i + j;
                    }
                }
            }
            return what == 0 ? best : least;
        }

        private int watch(int what) {
            if (out(what, 0, 1)) return -2;
            Person teacher = null;
            for (Person p : people) {
                if (teacher == null && p.kind == 5 && p.seat >= 0) teacher = p;
            }
            int best = -1;
            int least = din();
            for (int i = 0; i < people.size() && teacher != null; i++) {
                for (int j = 0; j < people.size(); j++) {
                    if (people.get(i).seat < 0 || people.get(i).kind == 5 || !beside(people.get(j), teacher)) continue;
                    int d = i == j ? din() : dinSwapped(people.get(i), people.get(j));
                    if (d < least) {
                        least = d;
                        best = 10 * i + j;
                    }
                }
            }
            return what == 0 ? best : least;
        }

        private int bestJoy;
        private int bestOrder;

        private int hat(int sheet, int what) {
            if (out(sheet, 0, 3) || out(what, 0, 1) || sheets[sheet] == null) return R;
            int[] row = sheets[sheet];
            int k = row.length / 2;
            if (row.length % 2 != 0 || out(k, 1, 6)) return R;
            int[] ones = Arrays.copyOf(row, k);
            int[] seats = Arrays.copyOfRange(row, k, 2 * k);
            if (Arrays.stream(ones).distinct().count() < k || Arrays.stream(seats).distinct().count() < k) return R;
            for (int one : ones) {
                if (no(one)) return R;
            }
            for (int seat : seats) {
                if (out(seat, 0, 23)) return R;
                int sitter = who(seat);
                if (sitter >= 0 && Arrays.stream(ones).noneMatch(o -> o == sitter)) return R;
            }
            List<Person> before = same(people);
            for (int one : ones) people.get(one).seat = -1;
            bestJoy = Integer.MIN_VALUE;
            tryOrders(ones, seats, 0, 0);
            people = before;
            return what == 0 ? bestJoy : bestOrder;
        }

        private void tryOrders(int[] ones, int[] seats, int place, int digits) {
            if (place == seats.length) {
                if (joy() > bestJoy) {
                    bestJoy = joy();
                    bestOrder = digits;
                }
                return;
            }
            for (int i = 0; i < ones.length; i++) {
                Person p = people.get(ones[i]);
                if (p.seat < 0) {
                    p.seat = seats[place];
                    tryOrders(ones, seats, place + 1, digits * 10 + i + 1);
                    p.seat = -1;
                }
            }
        }

        private int front(int n, int what) {
            if (out(n, 0, 60) || out(what, 0, 1)) return -2;
            int free = -1;
            for (int s = 3; s >= 0; s--) {
                if (who(s) < 0) free = s;
            }
            int best = -1;
            int least = sick(n, -1);
            for (int i = 0; i < people.size() && free >= 0; i++) {
                int was = people.get(i).seat;
                if (was < 0) continue;
                people.get(i).seat = free;
                if (sick(n, -1) < least) {
                    least = sick(n, -1);
                    best = i;
                }
                people.get(i).seat = was;
            }
            return what == 0 ? best : least;
        }

        private int stop(int n, int what) {
            if (out(n, 0, 60) || out(what, 0, 1)) return -2;
            int best = -1;
            int least = sick(n, -1);
            for (int k = 0; k < n; k++) {
                int s = sick(n, k);
                if (s < least) {
                    least = s;
                    best = k;
                }
            }
            return what == 0 ? best : least;
        }

        private int other(int[] told) {
            int bits = 0;
            for (int i = 0; i < told.length; i++) {
                if (noise(i) != told[i]) bits += 1 << i;
            }
            return bits;
        }

        private int tells(int sheet, int what) {
            if (out(sheet, 0, 3)) return -2;
            if (out(what, 0, 3) && (out(what, 10, 39) || no(what % 10))) return -2;
            int[] told = sheets[sheet];
            if (told == null) return -11;
            if (told.length != people.size()) return -2;
            if (what == 0) return other(told);
            if (what == 1) return textsTold(told);
            if (what < 4) return milesTold(told, what);
            Person p = people.get(what % 10);
            int was = what < 20 ? p.kind : what < 30 ? p.number : p.seat;
            int most = what < 20 ? 6 : what < 30 ? 10 : 24;
            int bits = 0;
            for (int v = 0; v < most; v++) {
                if (what >= 30 && who(v) >= 0 && who(v) != what % 10) continue;
                put(p, what, v);
                if (other(told) == 0) bits += 1 << v;
                put(p, what, was);
            }
            return bits;
        }

        private static void put(Person p, int what, int v) {
            if (what < 20) p.kind = v;
            else if (what < 30) p.number = v;
            else p.seat = v;
        }

        private int textsTold(int[] told) {
            int was = rule;
            int bits = 0;
            for (rule = 0; rule < texts.size(); rule++) {
                if (other(told) == 0) bits += 1 << rule;
            }
            rule = was;
            return bits;
        }

        private int milesTold(int[] told, int what) {
            int was = mile;
            List<Integer> miles = new ArrayList<>();
            for (mile = 0; mile < 100; mile++) {
                if (other(told) == 0) miles.add(mile);
            }
            mile = was;
            return what == 2 ? miles.size() : miles.isEmpty() ? -1 : miles.get(0);
        }

        private int film(int sheet) {
            if (out(sheet, 0, 3)) return -2;
            sheets[sheet] = new int[people.size()];
            sorts[sheet] = 1;
            for (int i = 0; i < people.size(); i++) sheets[sheet][i] = noise(i);
            return people.size();
        }

        private int drawn(int seed) {
            List<Person> before = same(people);
            for (Person p : people) p.seat = -1;
            int z = seed;
            for (Person p : people) {
                z = z * 1103515245 + 12345;
                int s = (z >>> 9) % 24;
                while (who(s) >= 0) s = s == 23 ? 0 : s + 1;
                p.seat = s;
            }
            int din = din();
            people = before;
            return din;
        }

        private long chance(int seed, int n, int part) {
            if (out(n, 1, 20) || out(part, 0, 1)) return -4611686018427387904L;
            int those = 0;
            for (int i = 0; i < n; i++) {
                if (drawn(seed + i) <= din()) those++;
            }
            int g = java.math.BigInteger.valueOf(those).gcd(java.math.BigInteger.valueOf(n)).intValue();
            return part == 0 ? those / g : n / g;
        }

        private int back() {
            if (keptPeople == null) return -3;
            mile = keptMile;
            limit = keptLimit;
            rule = keptRule;
            people = same(keptPeople);
            return people.size();
        }

        private int count(int what) {
            switch (what) {
                case 0: return people.size();
                case 1: return (int) people.stream().filter(p -> p.seat >= 0).count();
                case 2: return texts.size();
                case 3: return tape.length();
                case 4: return rule;
                default: return -2;
            }
        }

        private int sheet(int sheet, int sort, int n) {
            if (out(sheet, 0, 3) || out(sort, -1, 2) || sort >= 0 && n > 40) return -2;
            if (sort >= 0 && n < 0) return -14;
            sheets[sheet] = sort < 0 ? null : new int[n];
            sorts[sheet] = sort;
            return 1;
        }

        private int cell(int sheet, int i, int v) {
            if (out(sheet, 0, 3)) return -2;
            if (sheets[sheet] == null) return -11;
            if (out(i, 0, sheets[sheet].length - 1)) return -12;
            sheets[sheet][i] = sorts[sheet] == 0 ? (byte) v : sorts[sheet] == 1 ? (short) v : v;
            return 1;
        }

        private int copy(int sheet, int i, int other, int j, int n) {
            if (out(sheet, 0, 3) || out(other, 0, 3)) return -2;
            if (sheets[sheet] == null || sheets[other] == null) return -11;
            if (sorts[sheet] != sorts[other]) return -13;
            if (n < 0 || i < 0 || j < 0 || (long) i + n > sheets[sheet].length || (long) j + n > sheets[other].length) return -12;
            int[] those = Arrays.copyOfRange(sheets[sheet], i, i + n);
            for (int k = 0; k < n; k++) sheets[other][j + k] = those[k];
            return n;
        }

        private int bring(int sheet, int sort, int from, int n) {
            if (out(sheet, 0, 3) || out(sort, 0, 2) || out(n, 0, 8)) return -2;
            if (sheets[sheet] != null && sorts[sheet] != sort) return -13;
            if (sheets[sheet] == null) return -11;
            int came = 0;
            for (int k = 0; k < n; k++) {
                long i = from + 2L * k;
                if (i < 0 || i + 1 >= sheets[sheet].length) return -12;
                if (come(sheets[sheet][(int) i], sheets[sheet][(int) i + 1]) >= 0) came++;
            }
            return came;
        }

        private int taken(int one, int k) {
            if (out(k, 0, 5)) return -2;
            if (no(one)) return -11;
            return KINDS[k].getClass().isInstance(KINDS[people.get(one).kind]) ? people.get(one).number : -13;
        }
    }
}
