/** For each promise of the document: ordinary calls, the edges it names, wrong calls. */
public final class PromiseTest {
    private static final int REFUSED = -100000;
    private static final int MIN = Integer.MIN_VALUE, MAX = Integer.MAX_VALUE;
    private static int wrong = 0;
    private static int promise = 0;

    private static void due(String what, long got, long want) {
        if (got != want) {
            wrong++;
            System.out.println("promise " + promise + ": " + what + " answered " + got + ", due is " + want);
        }
    }

    public static void main(String[] args) {
        for (promise = 1; promise <= 29; promise++) {
            testPromise();
        }
        System.out.println(wrong == 0 ? "PromiseTest: all as due" : "PromiseTest: " + wrong + " not as due");
        if (wrong != 0) {
            System.exit(1);
        }
    }

    private static void testPromise() {
        switch (promise) {
            case 1: newObject(); break;
            case 2: set(); break;
            case 3: passenger(); break;
            case 4: sit(); break;
            case 5: told(); toldBounds(); toldBeside(); break;
            case 6: who(); break;
            case 7: feed(); break;
            case 8: text(); faults(); depths(); values(); break;
            case 9: force(); break;
            case 10: all(); glad(); break;
            case 11: ride(); break;
            case 12: best(); break;
            case 13: change(); break;
            case 14: watch(); break;
            case 15: hat(); hatRefuses(); break;
            case 16: front(); break;
            case 17: stop(); break;
            case 18: tells(); tellsRefuses(); break;
            case 19: film(); break;
            case 20: drawn(); break;
            case 21: chance(); break;
            case 22: image(); break;
            case 23: back(); break;
            case 24: count(); break;
            case 25: sheet(); break;
            case 26: cell(); break;
            case 27: copy(); break;
            case 28: passengers(); break;
            default: taken(); break;
        }
    }

    // ---- helpers

    /** Passengers of the kinds, with NUMBERS as told, on the seats (-1: they stand). */
    private static BackSeat coach(int[]... kindNumberSeat) {
        BackSeat x = new BackSeat();
        for (int[] one : kindNumberSeat) {
            int number = x.passenger(one[0], one[1]);
            x.sit(number, one[2]);
        }
        return x;
    }

    private static int[] one(int kind, int number, int seat) {
        return new int[] {kind, number, seat};
    }

    private static void feedAll(BackSeat x, String text) {
        for (int i = 0; i < text.length(); i++) {
            x.feed(text.charAt(i));
        }
    }

    private static int read(BackSeat x, String text) {
        feedAll(x, text);
        return x.text();
    }

    private static void rule(BackSeat x, String text) {
        int number = read(x, text);
        due("text " + text, number > 0 ? 1 : number, 1);
        x.force(number);
    }

    private static void row(BackSeat x, int sheet, int sort, int... items) {
        x.sheet(sheet, sort, items.length);
        for (int i = 0; i < items.length; i++) {
            x.cell(sheet, i, items[i]);
        }
    }

    // ---- promises

    private static void newObject() {
        BackSeat x = new BackSeat();
        due("count(0)", x.count(0), 0);
        due("count(1)", x.count(1), 0);
        due("count(2)", x.count(2), 1);
        due("count(3)", x.count(3), 0);
        due("count(4)", x.count(4), 0);
        due("told(0, 0)", x.told(0, 0), 0);
        due("told(0, 1)", x.told(0, 1), 50);
        due("told(0, 2)", x.told(0, 2), BackSeat.BAD);
        for (int seat = 0; seat < 24; seat++) {
            due("who", x.who(seat), -1);
        }
        for (int sheet = 0; sheet < 4; sheet++) {
            due("cell of a missing sheet", x.cell(sheet, 0, 0), -11);
        }
        due("back()", x.back(), -3);
        due("NONE", BackSeat.NONE, -1);
        due("BAD", BackSeat.BAD, -2);
        due("STATE", BackSeat.STATE, -3);
        due("FULL", BackSeat.FULL, -4);
        due("NO", BackSeat.NO, -4611686018427387904L);
    }

    private static void set() {
        BackSeat x = coach(one(0, 4, -1), one(1, 5, -1));
        due("MILE", x.set(0, MIN, 99), 0);
        due("MILE again", x.set(0, 99, 7), 99);
        due("MILE -1", x.set(0, 0, -1), -2);
        due("MILE 100", x.set(0, 0, 100), -2);
        due("MILE stays", x.told(0, 0), 7);
        due("LIMIT", x.set(1, MAX, 999), 50);
        due("LIMIT 0", x.set(1, -1, 0), 999);
        due("LIMIT -1", x.set(1, 0, -1), -2);
        due("LIMIT 1000", x.set(1, 0, 1000), -2);
        due("LIMIT stays", x.told(0, 1), 0);
        due("NUMBER", x.set(2, 0, 9), 4);
        due("NUMBER 0", x.set(2, 0, 0), 9);
        due("NUMBER 10", x.set(2, 1, 10), -2);
        due("NUMBER -1", x.set(2, 1, -1), -2);
        due("NUMBER of none", x.set(2, 2, 1), -2);
        due("NUMBER of -1", x.set(2, -1, 1), -2);
        due("NUMBER stays", x.told(1, 2), 5);
        due("FRIEND", x.set(3, 0, 1), -1);
        due("FRIEND NONE", x.set(3, 0, -1), 1);
        due("FRIEND back", x.set(3, 1, 0), -1);
        due("FRIEND again", x.set(3, 1, 0), 0);
        due("own FRIEND", x.set(3, 1, 1), -2);
        due("FRIEND none such", x.set(3, 1, 2), -2);
        due("FRIEND -2", x.set(3, 1, -2), -2);
        due("FRIEND of none", x.set(3, 2, 0), -2);
        due("FRIEND of -1", x.set(3, -1, -1), -2);
        due("FRIEND stays", x.told(1, 3), 0);
        due("what 4", x.set(4, 0, 0), -2);
        due("what -1", x.set(-1, 0, 0), -2);
    }

    private static void passenger() {
        BackSeat x = new BackSeat();
        due("kind -1", x.passenger(-1, 0), -2);
        due("kind 6", x.passenger(6, 0), -2);
        due("number -1", x.passenger(0, -1), -2);
        due("number 10", x.passenger(0, 10), -2);
        for (int i = 0; i < 8; i++) {
            due("passenger", x.passenger(i % 6, i + 1), i);
            due("stands", x.told(i, 5), -1);
            due("no friend", x.told(i, 3), -1);
            due("number", x.told(i, 2), i + 1);
            due("kind", x.told(i, 4), i % 6);
        }
        due("the ninth", x.passenger(0, 0), -4);
        due("BAD ahead of FULL", x.passenger(6, 0), -2);
        due("count", x.count(0), 8);
    }

    private static void sit() {
        BackSeat x = coach(one(0, 0, -1), one(0, 0, -1));
        due("sits", x.sit(0, 23), -1);
        due("who", x.who(23), 0);
        due("own seat", x.sit(0, 23), 23);
        due("taken", x.sit(1, 23), -3);
        due("stands still", x.told(1, 5), -1);
        due("moves", x.sit(0, 0), 23);
        due("left", x.who(23), -1);
        due("free now", x.sit(1, 23), -1);
        due("stands up", x.sit(0, -1), 0);
        due("stands", x.sit(0, -1), -1);
        due("who 0", x.who(0), -1);
        due("seat 24", x.sit(0, 24), -2);
        due("seat -2", x.sit(0, -2), -2);
        due("no such one", x.sit(2, 5), -2);
        due("-1", x.sit(-1, 5), -2);
        due("BAD ahead of STATE", x.sit(2, 23), -2);
        due("who 5", x.who(5), -1);
        due("sitting", x.count(1), 1);
    }

    private static void told() {
        BackSeat x = coach(one(1, 3, 9), one(0, 1, 8));
        x.set(3, 0, 1);
        due("MILE, whoever", x.told(MAX, 0), 0);
        due("LIMIT, whoever", x.told(MIN, 1), 50);
        due("NUMBER", x.told(0, 2), 3);
        due("FRIEND", x.told(0, 3), 1);
        due("KIND", x.told(0, 4), 1);
        due("SEAT", x.told(0, 5), 9);
        due("NOISE", x.told(0, 6), 14);
        due("QUEASY", x.told(0, 7), 2);
        due("BESIDE", x.told(0, 8), 1);
        due("WATCHED", x.told(0, 9), 0);
        due("what 10", x.told(0, 10), -2);
        due("what -1", x.told(0, -1), -2);
        due("none such", x.told(2, 2), -2);
        due("-1", x.told(-1, 9), -2);
        int[][] noise = {{7, 7, 10}, {14, 14, 23}, {3, 3, 5}, {19, 19, 28}, {6, 6, 8}, {0, 0, 0}};
        int[][] queasy = {{2, 2, 5}, {2, 2, 5}, {6, 6, 15}, {2, 2, 0}, {3, 3, 7}, {0, 0, 0}};
        int[] seats = {8, 11, 23};
        for (int kind = 0; kind < 6; kind++) {
            for (int i = 0; i < 3; i++) {
                BackSeat y = coach(one(kind, 3, seats[i]));
                due("NOISE of KIND " + kind, y.told(0, 6), noise[kind][i]);
                due("QUEASY of KIND " + kind, y.told(0, 7), queasy[kind][i]);
            }
            BackSeat z = coach(one(kind, 3, -1), one(5, 0, 0));
            for (int what = 6; what < 10; what++) {
                due("who stands", z.told(0, what), 0);
            }
        }
        BackSeat w = coach(one(3, 9, 1), one(5, 0, 0), one(5, 0, 2));
        due("TOM WATCHED", w.told(0, 9), 1);
        due("TOM is quiet", w.told(0, 6), 0);
        due("no TEACHER BESIDE this one", w.told(1, 9), 0);
        w.sit(1, -1);
        due("TOM not WATCHED", w.told(0, 9), 0);
        due("TOM is loud", w.told(0, 6), 15);
    }

    private static void toldBounds() {
        BackSeat x = coach(one(2, 9, 4), one(4, 9, 8), one(1, 9, 20), one(0, 0, 12), one(3, 0, 16));
        rule(x, "sounds 300; turns 99; joys 0;");
        due("SICKLY: 199 is 99", x.told(0, 7), 99);
        due("BABY: half of 200 is 99", x.told(1, 7), 99);
        due("LOUD in the REAR", x.told(2, 6), 207);
        due("CHILD: sounds 99 at most", x.told(3, 6), 99);
        due("TOM", x.told(4, 6), 203);
        due("CHILD: QUEASY", x.told(3, 7), 99);
        rule(x, "sounds 0-300; turns 0-1; joys 0;");
        due("none below 0", x.told(3, 6), 0);
        due("BABY: NUMBER", x.told(1, 6), 9);
        due("SICKLY: its row", x.told(0, 7), 1);
        due("CHILD: 0", x.told(3, 7), 0);
        rule(x, "sounds 0; turns 60; joys 0;");
        due("the bound holds for what a BABY comes to", x.told(1, 7), 61);
    }

    private static void toldBeside() {
        boolean[][] front = new boolean[4][4];
        front[0][1] = front[1][0] = front[2][3] = front[3][2] = true;
        for (int a = 0; a < 24; a++) {
            for (int b = 0; b < 24; b++) {
                boolean isSo = a / 4 == b / 4 && (front[a % 4][b % 4] || Math.min(a, b) == 21 && Math.max(a, b) == 22);
                if (a != b) {
                    BackSeat x = coach(one(0, 0, a), one(5, 0, b));
                    due("BESIDE " + a + " " + b, x.told(0, 8), isSo ? 1 : 0);
                    due("WATCHED " + a + " " + b, x.told(0, 9), isSo ? 1 : 0);
                }
            }
        }
        BackSeat x = coach(one(0, 0, 21), one(0, 0, 20), one(0, 0, 22));
        due("two BESIDE", x.told(0, 8), 2);
        due("one BESIDE", x.told(1, 8), 1);
    }

    private static void who() {
        BackSeat x = coach(one(0, 0, 0), one(0, 0, 23));
        due("seat 0", x.who(0), 0);
        due("seat 23", x.who(23), 1);
        due("seat 1", x.who(1), -1);
        due("seat -1", x.who(-1), -2);
        due("seat 24", x.who(24), -2);
        due("seat MIN", x.who(MIN), -2);
    }

    private static void feed() {
        BackSeat x = new BackSeat();
        due("-1", x.feed(-1), -2);
        due("256", x.feed(256), -2);
        due("0", x.feed(0), 1);
        due("255", x.feed(255), 2);
        for (int i = 3; i <= 160; i++) {
            due("feed", x.feed(32), i);
        }
        due("FULL", x.feed(32), -4);
        due("BAD ahead of FULL", x.feed(256), -2);
        due("count(3)", x.count(3), 160);
    }

    private static void text() {
        BackSeat x = new BackSeat();
        due("empty", x.text(), -100);
        due("as THE RULE", read(x, "sounds 5 + row ; turns row ; joys beside ;"), 1);
        due("TAPE empty", x.count(3), 0);
        due("no blanks", read(x, "sounds 5+row;turns row;joys beside;"), 2);
        due("blanks", read(x, "\n sounds\n5 ; turns 1;joys(1) ; \n"), 3);
        due("a FAULT", read(x, "sounds ;"), -107);
        due("TAPE empty by a FAULT", x.count(3), 0);
        due("fourth", read(x, "sounds 1;turns 1;joys 1;"), 4);
        due("fifth", read(x, "sounds 1;turns 1;joys 1;"), 5);
        due("FULL", read(x, "sounds 1;turns 1;joys 1;"), -4);
        due("TAPE stays", x.count(3), 24);
        due("FULL, also with a FAULT", x.text(), -4);
        due("TEXTS", x.count(2), 6);
        BackSeat y = new BackSeat();
        StringBuilder b = new StringBuilder("sounds 1;turns 1;joys 1");
        while (b.length() < 159) {
            b.append("+1");
        }
        b.setLength(159);
        due("160 bytes", read(y, b.append(';').toString()), 1);
    }

    /** A text and the place of its fault. */
    private static void fault(String text, int place) {
        due("'" + text + "'", read(new BackSeat(), text), -100 - place);
    }

    private static void faults() {
        fault(" ", 1);
        fault("sound 1;turns 1;joys 1;", 0);
        fault(" Sounds 1;turns 1;joys 1;", 1);
        fault("turns 1;", 0);
        fault("sounds 1", 8);
        fault("sounds 1  ", 10);
        fault("sounds 1;turns 1;joys 1", 23);
        fault("sounds 1;turns 1;joys 1;;", 24);
        fault("sounds 1;turns 1;joys 1; row", 25);
        fault("sounds 1;turns 1;joys 1;\t", 24);
        fault("sounds 1;joys 1;turns 1;", 9);
        fault("sounds 12345;turns 1;joys 1;", 7);
        fault("sounds 00001;turns 1;joys 1;", 7);
        fault("sounds 5row;turns 1;joys 1;", 8);
        fault("sounds row5;turns 1;joys 1;", 10);
        fault("sounds rows;turns 1;joys 1;", 7);
        fault("sounds rowz;turns 1;joys 1;", 7);
        fault("sounds mow;turns 1;joys 1;", 7);
        fault("sounds ro;turns 1;joys 1;", 7);
        fault("sounds 1 xr 1;turns 1;joys 1;", 9);
        fault("sounds - x 1;turns 1;joys 1;", 9);
        fault("sounds - # 1;turns 1;joys 1;", 9);
        fault("kounds 1;turns 1;joys 1;", 0);
        fault("sounds1;", 8);
        fault("sounds1 turns", 8);
        fault("sounds sounds;", 7);
        fault("sounds 1 2;", 9);
        fault("sounds (1;", 9);
        fault("sounds 1);", 8);
        fault("sounds ();", 8);
        fault("sounds 1 < 2 < 3;", 13);
        fault("sounds 1 = 2 < 3;", 13);
        fault("sounds 1 + not 2;", 11);
        fault("sounds 1 < not 2;", 11);
        fault("sounds - not 2;", 9);
        fault("sounds + 2;", 7);
        fault("sounds 1 + * 2;", 11);
        fault("sounds 1 or ;", 12);
        fault("sounds or 1;", 7);
        fault("sounds 1 and and 1;", 13);
        fault("sounds not;", 10);
        fault("sounds 1 # 2;", 9);
        fault("sounds 1+`;", 9);
        fault("sounds 1+{;", 9);
        fault("sounds 1+/;", 9);
        fault("sounds 1+:;", 9);
        fault("sounds 1\r;", 8);
        fault("sounds row # 12345;", 11);
        fault("sounds 1\u00e9;", 8);
    }

    private static void depths() {
        String end = ";turns 1;joys 1;";
        due("5 (", read(new BackSeat(), "sounds (((((1)))))" + end), 1);
        fault("sounds ((((((1))))))" + end, 12);
        due("5 -", read(new BackSeat(), "sounds -----1" + end), 1);
        fault("sounds ------1" + end, 12);
        due("5 not", read(new BackSeat(), "sounds not not not not not 1" + end), 1);
        fault("sounds not not not not not not 1" + end, 27);
        due("mixed", read(new BackSeat(), "sounds not (-(-1))" + end), 1);
        due("5 mixed", read(new BackSeat(), "sounds not not (-(1)) + (1)" + end), 1);
        fault("sounds not (-(-(1)))" + end, 15);
        fault("sounds not not (-(-1))" + end, 18);
        due("one behind another", read(new BackSeat(), "sounds (1)+(1)*(1)-(1)<(1)+(1)" + end), 1);
        due("- behind a - that ended", read(new BackSeat(), "sounds ((((-1--1--1-(1)))))" + end), 1);
        due("a - between is none", read(new BackSeat(), "sounds (((((1-1-1-1-1-1)))))" + end), 1);
        due("a not that ended", read(new BackSeat(), "sounds not ((((not 1))))" + end), -100 - 15);
        due("not ends ahead of and", read(new BackSeat(), "sounds ((((not 1 and not 1 or not 1))))" + end), 1);
        due("not holds till its SUMs end", read(new BackSeat(), "sounds ((((not 1 < (1)))))" + end), -100 - 19);
    }

    /** A CHILD with NUMBER 7 and its friend, on 21 and 22 in MILE 12: what a text tells is its NOISE. */
    private static void value(String e, int want) {
        BackSeat x = coach(one(0, 7, 21), one(0, 0, 22), one(0, 0, 20));
        x.set(0, 0, 12);
        x.set(3, 0, 1);
        rule(x, "sounds " + e + "; turns 0; joys 0;");
        due(e, x.told(0, 6), want);
    }

    private static void values() {
        value("row", 5);
        value("column", 1);
        value("mile", 12);
        value("number", 7);
        value("beside*10", 20);
        value("friend", 1);
        value("9999-9990", 9);
        value("0007", 7);
        value("2+3*4", 14);
        value("(2+3)*4", 20);
        value("20-3-4", 13);
        value("-3+5", 2);
        value("10--3", 13);
        value("-2*-3", 6);
        value("5 < 6", 1);
        value("6 < 6", 0);
        value("6 = 6", 1);
        value("6 = 5 + 1", 1);
        value("not 6 = 5", 1);
        value("not 7", 0);
        value("not not 7", 1);
        value("not 0 * 5", 1);
        value("7 and 8", 1);
        value("7 and 0", 0);
        value("0 or 8", 1);
        value("0 or 0", 0);
        value("1 or 1 and 0", 1);
        value("(1 or 1) and 0", 0);
        value("not 1 or 1", 1);
        value("-1 < 0 and 1", 1);
        value("(7)", 7);
        value("(mile < 12) + (mile = 12) * 4", 4);
        // 99980001 * 22 is 2199560022, * 43 is 4299140043: 4172747 behind 32 bits
        value("9999 * 9999 * 22 < 0", 1);
        value("9999 * 9999 * 43 - 417 * 9999 - 3100", 64);
    }

    private static void force() {
        BackSeat x = coach(one(0, 0, 0));
        due("TEXT 1", read(x, "sounds 33; turns 1; joys 2;"), 1);
        due("still TEXT 0", x.told(0, 6), 5);
        due("none such", x.force(2), -2);
        due("-1", x.force(-1), -2);
        due("which was", x.force(1), 0);
        due("THE RULE", x.told(0, 6), 33);
        due("turns", x.told(0, 7), 1);
        due("joys", x.all(1), 2);
        due("same", x.force(1), 1);
        due("back", x.force(0), 1);
        due("TEXT 0", x.told(0, 6), 5);
    }

    private static void all() {
        BackSeat x = coach(one(0, 0, 8), one(1, 0, 9), one(0, 0, 10), one(0, 0, -1), one(0, 0, 7));
        due("DIN", x.all(0), 7 + 14 + 7 + 6);
        due("JOY", x.all(1), 2);
        due("alone", x.all(2), 2);
        x.sit(2, 21);
        x.sit(3, 22);
        due("none alone in the REAR but 7", x.all(2), 1);
        due("3", x.all(3), REFUSED);
        due("-1", x.all(-1), REFUSED);
        BackSeat y = coach(one(0, 0, 0), one(0, 0, 1));
        rule(y, "sounds mile; turns 0; joys mile;");
        y.set(0, 0, 30);
        due("DIN in THE MILE", y.all(0), 60);
        due("JOY in THE MILE", y.all(1), 60);
    }

    private static void glad() {
        int[] alone = {7, 7, 5, 14, 3, -7};
        int[] rear = {7, 12, 2, 24, 3, -7};
        int[] beside = {17, 17, 15, 34, 3, -7};
        for (int kind = 0; kind < 6; kind++) {
            BackSeat x = coach(one(kind, 0, 8));
            rule(x, "sounds 0; turns 0; joys 7;");
            due("GLAD of KIND " + kind, x.all(1), alone[kind]);
            x.sit(0, 23);
            due("GLAD in the REAR", x.all(1), rear[kind]);
            x.sit(0, -1);
            due("who stands", x.all(1), 0);
            x.sit(0, 8);
            x.passenger(4, 0);
            x.sit(1, 9);
            x.set(3, 1, 0);
            due("one's own FRIEND counts", x.all(1), alone[kind] + 3);
            x.set(3, 0, 1);
            due("FRIEND BESIDE", x.all(1), beside[kind] + 3);
            x.sit(1, 10);
            due("FRIEND not BESIDE", x.all(1), alone[kind] + 3);
            x.sit(1, -1);
            due("FRIEND stands", x.all(1), alone[kind]);
        }
        BackSeat y = coach(one(0, 0, 0));
        rule(y, "sounds 0; turns 0; joys 0 - 300;");
        due("-99 at least", y.all(1), -99);
        rule(y, "sounds 0; turns 0; joys 300;");
        due("99 at most", y.all(1), 99);
    }

    private static void ride() {
        // 4 a mile in row 4: more than 50 in the 13th; SICKLY 12 a mile: in the 5th
        BackSeat x = coach(one(0, 0, 16), one(2, 0, 18), one(0, 0, -1));
        due("all", x.ride(60, 0), 4 + 12);
        due("first", x.ride(60, 1), 1);
        due("when", x.ride(60, 10), 12);
        due("when 1", x.ride(60, 11), 4);
        due("when NONE", x.ride(60, 12), -1);
        due("how often", x.ride(60, 20), 4);
        due("how often 1", x.ride(60, 21), 12);
        due("how often 2", x.ride(60, 22), 0);
        due("12 MILES", x.ride(12, 20), 0);
        due("13 MILES", x.ride(13, 20), 1);
        due("n 0", x.ride(0, 0), 0);
        due("nobody", x.ride(0, 1), -1);
        due("n 61", x.ride(61, 0), -2);
        due("n -1", x.ride(-1, 0), -2);
        due("what 2", x.ride(1, 2), -2);
        due("what 9", x.ride(1, 9), -2);
        due("no such", x.ride(1, 13), -2);
        due("no such, how often", x.ride(1, 23), -2);
        due("what 30", x.ride(1, 30), -2);
        due("what -1", x.ride(1, -1), -2);
        x.set(1, 0, 48);
        due("no more than LIMIT", x.ride(4, 0), 0);
        x.set(1, 0, 47);
        due("more than LIMIT", x.ride(4, 0), 1);
        BackSeat y = coach(one(0, 0, 4), one(0, 0, 6));
        y.set(1, 0, 0);
        due("of one MILE the least number", y.ride(3, 1), 0);
        rule(y, "sounds 0; turns (99 < mile) * 7; joys 0;");
        y.set(0, 0, 98);
        due("past 99", y.ride(4, 0), 4);
        due("when past 99", y.ride(4, 11), 2);
        due("in thought", y.told(0, 0), 98);
        BackSeat z = coach(one(0, 0, 0), one(0, 0, 3), one(0, 0, 20), one(0, 0, 22));
        z.set(1, 0, 0);
        due("the first by number, not row", z.ride(5, 1), 2);
    }

    private static void best() {
        BackSeat x = coach(one(3, 0, -1), one(5, 0, 9), one(0, 0, 0));
        due("a TOM by the TEACHER", x.best(0, 0), 8);
        due("DIN then", x.best(0, 1), 5);
        due("in thought", x.told(0, 5), -1);
        due("one's own", x.best(2, 0), 0);
        due("one's own, DIN", x.best(2, 1), 5);
        x.sit(0, 8);
        due("own seat of like ones", x.best(0, 0), 8);
        BackSeat y = coach(one(0, 0, 23), one(0, 0, 0), one(0, 0, 1));
        due("the first free", y.best(0, 0), 2);
        due("DIN", y.best(0, 1), 15);
        due("no such", y.best(3, 0), -2);
        due("-1", y.best(-1, 0), -2);
        due("what 2", y.best(0, 2), -2);
        due("what -1", y.best(0, -1), -2);
    }

    private static void change() {
        BackSeat x = coach(one(0, 0, 0), one(1, 0, 16), one(1, 0, 17), one(1, 0, -1));
        // 5 + 18 + 18; a LOUD in front: 9 + 10 + 18
        due("the first of like ones", x.change(0), 1);
        due("DIN then", x.change(1), 37);
        due("in thought", x.told(0, 5), 0);
        x.sit(0, 18);
        due("none", x.change(0), -1);
        due("as now", x.change(1), 45);
        due("what 2", x.change(2), -2);
        due("what -1", x.change(-1), -2);
        BackSeat y = coach(one(0, 0, 1), one(0, 0, 2), one(1, 0, 20), one(0, 0, 0));
        due("the lesser first", y.change(0), 2);
        y.sit(0, -1);
        due("who stands stays", y.change(0), 12);
    }

    private static void watch() {
        // TEACHER 1 on 8, CHILD 2 BESIDE; TOM 3 on 16: 5 more than a LOUD's 18
        BackSeat x = coach(one(3, 0, -1), one(5, 0, 8), one(0, 0, 9), one(3, 0, 16), one(3, 0, 17));
        due("the first TOM that sits", x.watch(0), 32);
        due("DIN", x.watch(1), 0 + 9 + 23);
        due("in thought", x.told(3, 5), 16);
        due("what 2", x.watch(2), -2);
        due("what -1", x.watch(-1), -2);
        x.sit(2, -1);
        due("nobody BESIDE", x.watch(0), -1);
        due("as now", x.watch(1), 46);
        BackSeat y = coach(one(3, 0, 0), one(5, 0, 20), one(5, 0, -1), one(0, 0, 1));
        due("nobody BESIDE the first TEACHER", y.watch(0), -1);
        y.sit(3, 21);
        due("one BESIDE", y.watch(0), 3);
        y.sit(2, 1);
        due("a TOM that is WATCHED already", y.watch(0), 3);
        due("CHILD in front then", y.watch(1), 5);
        BackSeat t = coach(one(5, 0, 20), one(0, 0, 21), one(5, 0, 0));
        due("none of the TEACHERS", t.watch(0), -1);
        due("none of the TEACHERS: as now", t.watch(1), 10);
        BackSeat s = coach(one(5, 0, 20), one(1, 0, 21), one(0, 0, -1), one(0, 0, 23));
        due("who stands has no SEAT to change", s.watch(0), -1);
        // the first TEACHER stands: the next one that sits counts
        BackSeat z = coach(one(5, 0, -1), one(5, 0, 22), one(0, 0, 21), one(0, 0, 23), one(3, 0, 0));
        due("of like ones by that one", z.watch(0), 42);
        due("DIN then", z.watch(1), 15);
        BackSeat none = coach(one(3, 0, 0), one(0, 0, 1));
        due("no TEACHER", none.watch(0), -1);
        due("no TEACHER, DIN", none.watch(1), 20);
    }

    private static void hat() {
        BackSeat x = coach(one(0, 0, 0), one(1, 0, 1), one(2, 0, 2), one(5, 0, 20));
        x.set(3, 0, 1);
        // LOUD 5 more in the REAR; CHILD by its FRIEND; SICKLY 5 less there
        row(x, 0, 0, 1, 2, 0, 21, 22, 23);
        due("JOY", x.hat(0, 0), 12 + 7 - 4 - 1);
        due("the order", x.hat(0, 1), 132);
        due("in thought", x.told(0, 5), 0);
        row(x, 1, 2, 0, 2, 8, 0);
        due("own seats and free ones: JOY", x.hat(1, 0), 1 + 11 - 2 - 0);
        due("the order of them", x.hat(1, 1), 21);
        row(x, 2, 1, 3, 9);
        due("one", x.hat(2, 1), 1);
        due("TEACHER alone in the middle", x.hat(2, 0), 12);
        BackSeat y = coach(one(0, 0, 8), one(0, 0, -1), one(0, 0, -1), one(0, 0, -1), one(0, 0, -1), one(0, 0, -1));
        row(y, 0, 0, 5, 4, 3, 2, 1, 0, 0, 1, 2, 3, 4, 5);
        due("six, the first of like ones", y.hat(0, 1), 123456);
        due("six: JOY", y.hat(0, 0), 6);
        y.set(3, 0, 1);
        y.set(3, 5, 4);
        y.set(3, 2, 1);
        due("FRIENDS in pairs", y.hat(0, 1), 123456);
        due("FRIENDS in pairs: JOY", y.hat(0, 0), 6 + 20);
    }

    private static void hatRefuses() {
        BackSeat x = coach(one(0, 0, 0), one(0, 0, 1), one(0, 0, 2), one(0, 0, 3), one(0, 0, 4), one(0, 0, 5), one(0, 0, 6));
        due("sheet 4", x.hat(4, 0), REFUSED);
        due("sheet -1", x.hat(-1, 0), REFUSED);
        due("missing", x.hat(0, 0), REFUSED);
        row(x, 0, 0, 0, 8);
        due("as told", x.hat(0, 0), 4);
        due("what 2", x.hat(0, 2), REFUSED);
        due("what -1", x.hat(0, -1), REFUSED);
        int[][] bad = {{}, {0}, {0, 1, 8}, {7, 8}, {-1, 8}, {0, 24}, {0, -1}, {0, 1}, {0, 0, 8, 9}, {0, 1, 8, 8},
            {0, 1, 8, 2}, {0, 1, 2, 3, 4, 5, 6, 8, 9, 10, 11, 12, 13, 14}};
        for (int[] items : bad) {
            row(x, 0, 2, items);
            due("not as told: " + java.util.Arrays.toString(items), x.hat(0, 0), REFUSED);
        }
        row(x, 0, 2, 0, 1, 1, 0);
        due("of these PASSENGERS", x.hat(0, 1), 12);
    }

    private static void front() {
        BackSeat x = coach(one(0, 0, 16), one(0, 0, 20), one(1, 0, 22), one(2, 0, -1));
        // 20 MILES: 4 a mile once, 5 a mile once, once
        due("now", x.ride(20, 0), 3);
        due("the first of like ones", x.front(20, 0), 0);
        due("how often", x.front(20, 1), 2);
        x.set(0, 0, 0);
        due("60 MILES", x.ride(60, 0), 4 + 5 + 5);
        due("who is SICK more often", x.front(60, 0), 1);
        due("how often then", x.front(60, 1), 9);
        due("in thought", x.told(1, 5), 20);
        due("n 0", x.front(0, 0), -1);
        due("n 0: as now", x.front(0, 1), 0);
        due("n 61", x.front(61, 0), -2);
        due("n -1", x.front(-1, 0), -2);
        due("what 2", x.front(5, 2), -2);
        due("what -1", x.front(5, -1), -2);
        BackSeat y = coach(one(0, 0, 20), one(0, 0, 0), one(0, 0, 1), one(0, 0, 2), one(0, 0, 3));
        due("no free SEAT", y.front(60, 0), -1);
        due("as now", y.front(60, 1), 5);
        y.sit(4, -1);
        rule(y, "sounds 0; turns row * 5 + (column = 3) * 50; joys 0;");
        due("a bad SEAT", y.front(60, 0), -1);
        y.sit(1, -1);
        due("the first free one", y.front(60, 0), 0);
        due("the first free one: 0", y.front(60, 1), 0);
        // one who stands is not SICK, and does not come into question
        BackSeat z = coach(one(0, 0, -1), one(0, 0, 23));
        due("who sits", z.front(60, 0), 1);
    }

    private static void stop() {
        BackSeat x = coach(one(0, 0, 20));
        // 5 a mile: in the 11th MILE 55; a stop behind any of the first ten keeps 10 MILES from it
        due("11 MILES now", x.ride(11, 0), 1);
        due("the first", x.stop(11, 0), 0);
        due("then", x.stop(11, 1), 0);
        due("10 MILES", x.stop(10, 0), -1);
        due("10 MILES: as without", x.stop(10, 1), 0);
        due("20 MILES", x.stop(20, 0), 9);
        due("20 MILES: none", x.stop(20, 1), 0);
        due("21 MILES", x.stop(21, 0), -1);
        due("21 MILES: once", x.stop(21, 1), 1);
        due("n 0", x.stop(0, 0), -1);
        due("n 0: as without", x.stop(0, 1), 0);
        due("n 61", x.stop(61, 0), -2);
        due("n -1", x.stop(-1, 0), -2);
        due("what 2", x.stop(5, 2), -2);
        due("what -1", x.stop(5, -1), -2);
        x.passenger(0, 0);
        x.sit(1, 16);
        due("two: 20 MILES", x.stop(20, 0), 9);
        due("two: 20 MILES, then", x.stop(20, 1), 0);
    }

    private static void tells() {
        BackSeat x = coach(one(0, 3, 8), one(1, 3, 20));
        // CHILD 7, LOUD 2 * 10 + 3
        row(x, 0, 2, 7, 23);
        due("as told", x.tells(0, 0), 0);
        due("TEXTS", x.tells(0, 1), 1);
        due("MILES", x.tells(0, 2), 100);
        due("the least", x.tells(0, 3), 0);
        due("KINDS of 0", x.tells(0, 10), 1);
        due("KINDS of 1", x.tells(0, 11), 1 << 1);
        due("NUMBERS of 0", x.tells(0, 20), 1023);
        due("NUMBERS of 1", x.tells(0, 21), 1 << 3);
        due("SEATS of 0", x.tells(0, 30), 15 << 8);
        due("SEATS of 1", x.tells(0, 31), 15 << 20);
        x.cell(0, 1, 28);
        due("who isn't so", x.tells(0, 0), 2);
        due("TOM", x.tells(0, 11), 1 << 3);
        due("no TEXT", x.tells(0, 1), 0);
        due("no MILE", x.tells(0, 2), 0);
        due("no least", x.tells(0, 3), -1);
        due("one is otherwise: no KIND of the other", x.tells(0, 10), 0);
        row(x, 0, 2, 8, 23);
        due("bit 0", x.tells(0, 0), 1);
        due("row 3", x.tells(0, 30), 15 << 12);
        x.sit(1, 13);
        row(x, 0, 2, 8, 16);
        due("free ones alone", x.tells(0, 30), 13 << 12);
        row(x, 0, 2, 0, 0);
        due("both", x.tells(0, 0), 3);
        x.sit(0, -1);
        x.sit(1, -1);
        due("who stand are quiet", x.tells(0, 0), 0);
        due("no SEAT is quiet", x.tells(0, 30), 0);
        x.set(2, 0, 0);
        due("any KIND", x.tells(0, 10), 63);
        BackSeat y = coach(one(0, 0, 0), one(3, 0, 2));
        due("TEXT 1", read(y, "sounds (mile < 60 and not mile < 40) * 3; turns 0; joys 0;"), 1);
        due("TEXT 2", read(y, "sounds 3 ; turns 0; joys 0;"), 2);
        due("TEXT 3", read(y, "sounds mile = 99; turns 0; joys 0;"), 3);
        y.set(0, 0, 50);
        row(y, 0, 0, 3, 11);
        due("by TEXT 0 both are otherwise", y.tells(0, 0), 3);
        due("TEXTS 1 and 2", y.tells(0, 1), 6);
        due("THE RULE stays", y.count(4), 0);
        y.force(1);
        due("20 MILES", y.tells(0, 2), 20);
        due("from 40 on", y.tells(0, 3), 40);
        due("THE MILE stays", y.told(0, 0), 50);
        y.force(3);
        row(y, 1, 0, 1, 7);
        due("MILE 99 alone", y.tells(1, 2), 1);
        due("MILE 99", y.tells(1, 3), 99);
        y.force(1);
        due("a TEACHER BESIDE", y.tells(0, 10), 1);
        y.sit(0, 3);
        row(y, 0, 0, 0, 0);
        due("TEACHER: makes the TOM quiet", y.tells(0, 10), 1 << 5);
        due("KIND stays", y.told(0, 4), 0);
    }

    private static void tellsRefuses() {
        BackSeat x = coach(one(0, 0, 0), one(0, 0, 1));
        x.sheet(1, 0, 3);
        for (int what : new int[] {-1, 4, 9, 12, 19, 22, 29, 32, 39, 40, 41, MIN, MAX}) {
            due("what " + what, x.tells(0, what), -2);
        }
        due("sheet 4", x.tells(4, 0), -2);
        due("sheet -1", x.tells(-1, 0), -2);
        due("missing", x.tells(0, 0), -11);
        due("another size", x.tells(1, 0), -2);
        x.sheet(1, 0, 1);
        due("too small", x.tells(1, 31), -2);
    }

    private static void film() {
        BackSeat x = coach(one(0, 0, 0), one(1, 4, 20), one(0, 0, -1));
        due("film", x.film(2), 3);
        due("as it is", x.tells(2, 0), 0);
        x.sheet(1, 1, 3);
        due("shorts", x.copy(1, 0, 2, 1, 2), 2);
        due("the size", x.copy(1, 0, 2, 1, 3), -12);
        due("LOUD is otherwise now", x.tells(2, 0), 2);
        due("sheet 4", x.film(4), -2);
        due("sheet -1", x.film(-1), -2);
        BackSeat y = coach(one(1, 0, 0));
        rule(y, "sounds 99; turns 0; joys 0;");
        y.film(0);
        due("198 in a short", y.tells(0, 0), 0);
    }

    private static void drawn() {
        BackSeat x = coach(one(0, 0, 5));
        // SEED 0: z is 12345, >>> 9 is 24, % 24 is 0: the first SEAT
        due("SEED 0", x.drawn(0), 5);
        due("in thought", x.told(0, 5), 5);
        x.passenger(0, 0);
        x.passenger(1, 0);
        // then z is -1043980748, (z >>> 9) is 6349572, % 24 is 12: row 3; then 1082843965, 2114929 % 24 is 1: row 0
        int z = 12345 * 1103515245 + 12345;
        int first = (z >>> 9) % 24;
        z = z * 1103515245 + 12345;
        int second = (z >>> 9) % 24;
        due("who stand sit, too", x.drawn(0), 5 + (5 + first / 4) + 2 * (5 + second / 4));
        due("they stand still", x.told(1, 5), -1);
        // a SEED that gives z = 512 * (24 k + 23): the last SEAT, then on from where that falls
        int inverse = 1;
        for (int i = 0; i < 5; i++) {
            inverse *= 2 - 1103515245 * inverse;
        }
        int seed = (512 * 23 - 12345) * inverse;
        due("the last SEAT", coach(one(0, 0, 2)).drawn(seed), 10);
        due("nobody", new BackSeat().drawn(7), 0);
        BackSeat full = coach(one(0, 0, 0), one(0, 0, 1), one(0, 0, 2), one(0, 0, 3), one(0, 0, 4), one(0, 0, 5),
            one(0, 0, 6), one(0, 0, 7));
        int least = 8 * 5;
        for (int s = -50; s < 50; s++) {
            boolean isPossible = full.drawn(s) >= least + 4 && full.drawn(s) <= 80 - 4;
            due("at most four a row", isPossible ? 1 : 0, 1);
        }
    }

    private static void chance() {
        BackSeat x = coach(one(0, 0, 0));
        int those = 0;
        for (int s = 0; s < 20; s++) {
            those += x.drawn(s) <= 5 ? 1 : 0;
        }
        long above = x.chance(0, 20, 0);
        long below = x.chance(0, 20, 1);
        due("the chance", above * 20, below * those);
        for (long d = 2; d <= 20; d++) {
            due("lowest terms", above % d == 0 && below % d == 0 ? 1 : 0, 0);
        }
        x.sit(0, 23);
        due("always", x.chance(MAX, 20, 0), 1);
        due("always, below", x.chance(MAX, 20, 1), 1);
        x.sit(0, -1);
        due("never", x.chance(3, 6, 0), 0);
        due("never, below", x.chance(3, 6, 1), 1);
        due("one seed", x.chance(3, 1, 1), 1);
        due("n 0", x.chance(0, 0, 0), BackSeat.NO);
        due("n 21", x.chance(0, 21, 1), BackSeat.NO);
        due("n MIN", x.chance(0, MIN, 1), BackSeat.NO);
        due("part 2", x.chance(0, 1, 2), BackSeat.NO);
        due("part -1", x.chance(0, 1, -1), BackSeat.NO);
    }

    private static void image() {
        BackSeat x = new BackSeat();
        due("none yet", x.image(), 0);
        due("kept", x.back(), 0);
        x.passenger(0, 0);
        x.passenger(0, 0);
        due("of two", x.image(), 2);
        x.passenger(0, 0);
        due("of three", x.image(), 3);
        due("the last counts", x.back(), 3);
    }

    private static void back() {
        BackSeat x = coach(one(0, 1, 4), one(1, 2, -1));
        due("none", x.back(), -3);
        read(x, "sounds 1; turns 1; joys 1;");
        x.set(0, 0, 5);
        x.set(1, 0, 6);
        x.set(3, 0, 1);
        x.image();
        x.set(0, 0, 15);
        x.set(1, 0, 16);
        x.set(2, 0, 7);
        x.set(3, 0, -1);
        x.force(1);
        x.sit(0, -1);
        x.sit(1, 4);
        x.passenger(5, 5);
        x.sit(2, 8);
        x.set(3, 1, 2);
        read(x, "sounds 2; turns 2; joys 2;");
        x.feed(65);
        row(x, 0, 0, 9);
        for (int again = 0; again < 2; again++) {
            due("back", x.back(), 2);
            due("MILE", x.told(0, 0), 5);
            due("LIMIT", x.told(0, 1), 6);
            due("NUMBER", x.told(0, 2), 1);
            due("FRIEND", x.told(0, 3), 1);
            due("FRIEND of 1", x.told(1, 3), -1);
            due("SEAT", x.told(0, 5), 4);
            due("SEAT of 1", x.told(1, 5), -1);
            due("who came since is gone", x.told(2, 2), -2);
            due("and sits nowhere", x.who(8), -1);
            due("who sat before", x.who(4), 0);
            due("THE RULE", x.count(4), 0);
            due("TEXTS stay", x.count(2), 3);
            due("THE TAPE stays", x.count(3), 1);
            due("SHEETS stay", x.cell(0, 0, 9), 1);
            x.set(0, 0, 50);
            x.sit(0, 9);
        }
        due("one who comes anew", x.passenger(0, 0), 2);
        due("stands", x.told(2, 5), -1);
        due("has no FRIEND", x.told(2, 3), -1);
        due("KIND", x.told(2, 4), 0);
    }

    private static void count() {
        BackSeat x = coach(one(0, 0, 0), one(0, 0, 1), one(0, 0, -1));
        read(x, "sounds 1; turns 1; joys 1;");
        x.force(1);
        x.feed(1);
        due("PASSENGERS", x.count(0), 3);
        due("that sit", x.count(1), 2);
        due("TEXTS", x.count(2), 2);
        due("bytes", x.count(3), 1);
        due("THE RULE", x.count(4), 1);
        due("5", x.count(5), -2);
        due("-1", x.count(-1), -2);
    }

    private static void sheet() {
        BackSeat x = new BackSeat();
        for (int sort = 0; sort < 3; sort++) {
            due("sheet", x.sheet(0, sort, 40), 1);
            due("has 40", x.cell(0, 39, 1), 1);
            due("not 41", x.cell(0, 40, 1), -12);
        }
        row(x, 0, 0, 1, 1);
        due("anew", x.sheet(0, 0, 2), 1);
        x.passenger(1, 0);
        x.passenger(1, 0);
        due("all 0", x.tells(0, 0), 0);
        due("n 0", x.sheet(1, 2, 0), 1);
        due("nothing in it", x.cell(1, 0, 0), -12);
        due("missing", x.sheet(0, -1, MIN), 1);
        due("is missing", x.cell(0, 0, 0), -11);
        due("missing, n 99", x.sheet(0, -1, 99), 1);
        due("sheet 4", x.sheet(4, 0, 1), -2);
        due("sheet -1", x.sheet(-1, -1, 1), -2);
        due("sort 3", x.sheet(0, 3, 1), -2);
        due("sort -2", x.sheet(0, -2, 1), -2);
        due("n 41", x.sheet(0, 0, 41), -2);
        due("n -1", x.sheet(0, 0, -1), -14);
        due("n MIN", x.sheet(0, 0, MIN), -14);
        due("BAD ahead of -14", x.sheet(0, 3, -1), -2);
        due("still missing", x.cell(0, 0, 0), -11);
    }

    private static void cell() {
        BackSeat x = coach(one(0, 0, -1));
        int[] byteOf = {0, 256, -256, 512};
        for (int v : byteOf) {
            row(x, 0, 0, v);
            due("lowest 8 bits of " + v, x.tells(0, 0), 0);
        }
        for (int v : new int[] {65536, -65536}) {
            row(x, 0, 1, v);
            due("lowest 16 bits of " + v, x.tells(0, 0), 0);
            row(x, 0, 2, v);
            due("an int " + v, x.tells(0, 0), 1);
        }
        row(x, 0, 1, 256);
        due("256 in a short", x.tells(0, 0), 1);
        BackSeat y = coach(one(1, 0, 0));
        rule(y, "sounds 90; turns 0; joys 0;");
        row(y, 0, 1, 180);
        due("180 in a short", y.tells(0, 0), 0);
        row(y, 0, 0, 180);
        due("180 in a byte is -76", y.tells(0, 0), 1);
        due("sheet 4", x.cell(4, 0, 0), -2);
        due("sheet -1", x.cell(-1, 0, 0), -2);
        due("missing", x.cell(1, 9, 0), -11);
        due("outside", x.cell(0, 1, 0), -12);
        due("-1", x.cell(0, -1, 0), -12);
    }

    private static void copy() {
        BackSeat x = coach(one(0, 0, 0), one(0, 0, 4), one(0, 0, 8), one(0, 0, 12));
        row(x, 0, 2, 1, 5, 6, 7, 2);
        x.sheet(1, 2, 4);
        due("copy", x.copy(0, 1, 1, 0, 3), 3);
        x.cell(1, 3, 8);
        due("5 6 7 8", x.tells(1, 0), 0);
        row(x, 1, 2, 5, 6, 7, 0);
        due("as they were", x.copy(1, 0, 1, 1, 3), 3);
        row(x, 2, 2, 0, 0, 0, 0);
        due("up", x.copy(1, 1, 2, 0, 3), 3);
        x.cell(2, 3, 8);
        due("5 5 6 7 came", x.tells(2, 0), 0);
        row(x, 1, 2, 0, 5, 6, 7);
        due("down", x.copy(1, 1, 1, 0, 3), 3);
        x.cell(1, 3, 8);
        due("5 6 7 8 again", x.tells(1, 0), 0);
        due("none at the end", x.copy(1, 4, 2, 4, 0), 0);
        due("outside by one", x.copy(1, 5, 2, 0, 0), -12);
        due("outside there by one", x.copy(1, 0, 2, 5, 0), -12);
        due("too many", x.copy(1, 2, 2, 0, 3), -12);
        due("too many there", x.copy(1, 0, 2, 2, 3), -12);
        due("n -1", x.copy(1, 0, 2, 0, -1), -12);
        due("i -1", x.copy(1, -1, 2, 0, 1), -12);
        due("j -1", x.copy(1, 0, 2, -1, 1), -12);
        due("n MAX", x.copy(1, 1, 2, 1, MAX), -12);
        due("i MAX", x.copy(1, MAX, 2, 1, 1), -12);
        due("j MAX", x.copy(1, 1, 2, MAX, 1), -12);
        due("all MIN", x.copy(1, MIN, 2, MIN, MIN), -12);
        x.sheet(3, 1, 4);
        due("unlike", x.copy(1, 0, 3, 0, 1), -13);
        due("unlike ahead of outside", x.copy(1, 9, 3, 0, 1), -13);
        x.sheet(3, -1, 0);
        due("missing", x.copy(1, 0, 3, 0, 1), -11);
        due("missing from", x.copy(3, 0, 1, 0, -1), -11);
        due("sheet 4", x.copy(4, 0, 3, 0, 1), -2);
        due("other 4", x.copy(3, 0, 4, 0, 1), -2);
        due("-1", x.copy(-1, 0, 0, 0, 1), -2);
        due("other -1", x.copy(0, 0, -1, 0, 1), -2);
    }

    private static void passengers() {
        BackSeat x = new BackSeat();
        row(x, 0, 0, 9, 0, 1, 6, 0, 5, 10, 4, 7, 3);
        due("two by two", x.passengers(0, 0, 1, 4), 2);
        due("the first", x.told(0, 2), 1);
        due("the last", x.told(1, 4), 4);
        due("the last's NUMBER", x.told(1, 2), 7);
        due("n 0", x.passengers(0, 0, 99, 0), 0);
        due("outside", x.passengers(0, 0, 7, 2), -12);
        due("what stood ahead came", x.count(0), 3);
        due("half a pair", x.passengers(0, 0, 9, 1), -12);
        due("from -1", x.passengers(0, 0, -1, 1), -12);
        due("from MAX", x.passengers(0, 0, MAX, 8), -12);
        due("from MIN", x.passengers(0, 0, MIN, 8), -12);
        due("three still", x.count(0), 3);
        due("sheet 4", x.passengers(4, 0, 0, 1), -2);
        due("sheet -1", x.passengers(-1, 0, 0, 1), -2);
        due("sort 3", x.passengers(0, 3, 0, 1), -2);
        due("sort -1", x.passengers(0, -1, 0, 1), -2);
        due("sort -1 of a missing one", x.passengers(1, -1, 0, 1), -2);
        due("n 9", x.passengers(0, 0, 0, 9), -2);
        due("n -1", x.passengers(0, 0, 0, -1), -2);
        due("another sort", x.passengers(0, 1, 0, 0), -13);
        due("missing", x.passengers(1, 1, 0, 0), -11);
        row(x, 1, 2, 0, 0, 1, 1, 2, 2, 3, 3, 4, 4, 5, 5, 0, 6);
        due("five have room", x.passengers(1, 2, 0, 7), 5);
        due("full", x.count(0), 8);
        due("none has room", x.passengers(1, 2, 0, 1), 0);
        due("none has room, and outside", x.passengers(1, 2, 12, 2), -12);
    }

    private static void taken() {
        // bit k: is taken for one of KIND k
        int[] kinds = {1, 3, 5, 11, 21, 33};
        for (int kind = 0; kind < 6; kind++) {
            BackSeat x = coach(one(kind, 4, -1));
            for (int k = 0; k < 6; k++) {
                due("KIND " + kind + " for " + k, x.taken(0, k), (kinds[kind] >> k & 1) == 1 ? 4 : -13);
            }
            due("k 6", x.taken(0, 6), -2);
            due("k -1", x.taken(0, -1), -2);
            due("k ahead", x.taken(7, 6), -2);
            due("no such", x.taken(1, 0), -11);
            due("-1", x.taken(-1, 0), -11);
        }
    }
}
