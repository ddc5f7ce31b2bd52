/** The bounds of promises 7 to 9: THE TAPE, the TOKENS, the FAULTS and their places, THE RULE. */
public final class TextBoundsTest extends Bounds {
    private static final String SHORT = "sounds 1;turns 1;joys 1;";

    public static void main(String[] args) {
        runAll(TextBoundsTest.class);
    }

    // ---- helpers

    private static void isText(String text) {
        due("'" + text + "'", read(new BackSeat(), text), 1);
    }

    private static void hasFault(String text, int place) {
        due("'" + text + "'", read(new BackSeat(), text), -100 - place);
    }

    /** An E, put where sounds tells: the place of its FAULT is counted from the E's begin. */
    private static void isE(String e) {
        isText("sounds " + e + ";turns 1;joys 1;");
    }

    private static void hasFaultInE(String e, int place) {
        hasFault("sounds " + e + ";turns 1;joys 1;", 7 + place);
    }

    /** What an E is, of a CHILD with NUMBER 7 on SEAT 21 in MILE 12, its FRIEND and another BESIDE. */
    private static void value(String e, int due) {
        BackSeat x = coach(one(CHILD, 7, 21), one(CHILD, 0, 22), one(CHILD, 0, 20));
        x.set(0, 0, 12);
        x.set(3, 0, 1);
        rule(x, "sounds " + e + ";turns 0;joys 0;");
        due(e, x.told(0, 6), due);
    }

    private static String longText(int size) {
        StringBuilder b = new StringBuilder("sounds 1;turns 1;joys 1");
        while (b.length() < size - 1) {
            b.append(' ');
        }
        return b.append(';').toString();
    }

    private static BackSeat fullTape() {
        BackSeat x = coach(one(CHILD, 3, 8));
        feed(x, longText(160));
        return x;
    }

    private static BackSeat fullTexts() {
        BackSeat x = coach(one(CHILD, 3, 8));
        for (int i = 1; i < 6; i++) {
            read(x, SHORT);
        }
        feed(x, "sounds 7");
        return x;
    }

    // ---- promise 7

    private static void theTapeHas160Bytes() {
        says(7, "A TEXT is read from THE TAPE (160 bytes at most).");
        BackSeat x = new BackSeat();
        for (int i = 1; i <= 160; i++) {
            due("feed " + i, x.feed(32), i);
        }
        due("feed 161", x.feed(32), FULL);
        due("count(3)", x.count(3), 160);
        due("text()", x.text(), -100 - 160);
        due("count(3) then", x.count(3), 0);
        due("feed again", x.feed(32), 1);
        refusesOn(TextBoundsTest::fullTape, "the 161st byte", y -> y.feed(' '), FULL);
        due("159 bytes", read(new BackSeat(), longText(159)), 1);
        due("160 bytes", read(new BackSeat(), longText(160)), 1);
        due("161 bytes, the last is left out", read(new BackSeat(), longText(161)), -100 - 160);
    }

    private static void bytes() {
        says(7, "A byte (0 .. 255) comes behind THE TAPE: how many it has.");
        BackSeat x = new BackSeat();
        due("feed(0)", x.feed(0), 1);
        due("feed(255)", x.feed(255), 2);
        due("count(3)", x.count(3), 2);
        refuses("feed(256)", y -> y.feed(256), BAD);
        refuses("feed(-1)", y -> y.feed(-1), BAD);
        refuses("feed(256 + 's')", y -> y.feed(256 + 's'), BAD);
        refuses("feed(MAX)", y -> y.feed(MAX), BAD);
        refuses("feed(MIN)", y -> y.feed(MIN), BAD);
    }

    private static void feedBadAheadOfFull() {
        says(7, "how many it has. BAD; FULL.");
        refusesOn(TextBoundsTest::fullTape, "feed(256)", y -> y.feed(256), BAD);
        refusesOn(TextBoundsTest::fullTape, "feed(-1)", y -> y.feed(-1), BAD);
        refusesOn(TextBoundsTest::fullTape, "feed(0)", y -> y.feed(0), FULL);
    }

    private static void behindTheTape() {
        says(7, "comes behind THE TAPE");
        BackSeat x = new BackSeat();
        feed(x, "sounds 1;turns 1;");
        feed(x, "joys 1;");
        due("text()", x.text(), 1);
    }

    // ---- promise 8

    private static void theNumberOfAText() {
        says(8, "is a TEXT: its number; -100 less the place of its FAULT.");
        BackSeat x = new BackSeat();
        due("the first", read(x, SHORT), 1);
        due("a FAULT", read(x, "joys"), -100);
        due("a FAULT further on", read(x, "sounds 1;turns 1;joys 1;;"), -124);
        due("the second", read(x, SHORT), 2);
        due("count(2)", x.count(2), 3);
    }

    private static void theTapeIsEmptyThen() {
        says(8, "THE TAPE, which is empty then (by a FAULT, too)");
        BackSeat x = new BackSeat();
        due("text() of an empty tape", x.text(), -100);
        read(x, SHORT);
        due("count(3)", x.count(3), 0);
        due("text() again", x.text(), -100);
        read(x, "sounds 1 ; wrong");
        due("count(3) by a FAULT", x.count(3), 0);
        due("count(2)", x.count(2), 2);
        due("a text behind a FAULT", read(x, SHORT), 2);
    }

    private static void sixTexts() {
        says(8, "There are 6 TEXTS at most, TEXT 0 with them.");
        BackSeat x = new BackSeat();
        due("count(2)", x.count(2), 1);
        for (int i = 1; i <= 5; i++) {
            due("TEXT " + i, read(x, SHORT), i);
        }
        due("count(2) then", x.count(2), 6);
        due("one more", read(x, SHORT), FULL);
        due("force(5)", x.force(5), 0);
        due("force(6)", x.force(6), BAD);
    }

    private static void fullAheadOfAll() {
        says(8, "FULL (ahead of all): no TEXT more has room (THE TAPE stays).");
        refusesOn(TextBoundsTest::fullTexts, "text(), also with a FAULT", x -> x.text(), FULL);
        BackSeat x = fullTexts();
        feed(x, ";turns 1;joys 1;");
        due("text() of what would be one", x.text(), FULL);
        due("count(3), THE TAPE stays", x.count(3), 24);
        BackSeat y = fullTexts();
        BackSeat empty = new BackSeat();
        for (int i = 1; i < 6; i++) {
            read(empty, SHORT);
        }
        due("text() of an empty tape", empty.text(), FULL);
        due("text() with a FAULT", y.text(), FULL);
        due("count(3)", y.count(3), 8);
    }

    private static void aFaultTakesNoRoom() {
        says(8, "no TEXT more has room");
        BackSeat x = new BackSeat();
        for (int i = 0; i < 9; i++) {
            due("a FAULT", read(x, "sounds 1;turns 1;joys 1"), -123);
        }
        for (int i = 1; i <= 5; i++) {
            due("TEXT " + i, read(x, SHORT), i);
        }
    }

    private static void textZero() {
        says(8, "TEXT 0, at first THE RULE, is: sounds 5 + row ; turns row ; joys beside ;");
        BackSeat x = coach(one(CHILD, 0, 0), one(CHILD, 0, 22), one(CHILD, 0, 21));
        due("count(4)", x.count(4), 0);
        due("count(2)", x.count(2), 1);
        due("NOISE in ROW 0", x.told(0, 6), 5);
        due("NOISE in ROW 5", x.told(1, 6), 10);
        due("QUEASY in ROW 0", x.told(0, 7), 0);
        due("QUEASY in ROW 5", x.told(1, 7), 5);
        due("JOY", x.all(1), 2);
        due("the same read", read(x, FIRST_RULE), 1);
        x.force(1);
        due("NOISE by it", x.told(1, 6), 10);
        due("JOY by it", x.all(1), 2);
    }

    // ---- TOKENS

    private static void tokensAsLongAsCanBe() {
        says(8, "TOKENS, each as long as can be");
        hasFaultInE("rowrow", 0);
        hasFaultInE("rows", 0);
        hasFaultInE("row row", 4);
        hasFaultInE("noti", 0);
        hasFaultInE("not1 orrow", 5);
        isE("not1or 1");
        hasFaultInE("1 2", 2);
        isE("12");
        hasFault("soundsrow;turns 1;joys 1;", 0);
        hasFault("sounds1;turnsrow;joys 1;", 8);
        isText("sounds1;turns1;joys1;");
    }

    private static void words() {
        says(8, "WORDS (a .. z)");
        hasFaultInE("1 and a", 6);
        hasFaultInE("1 and z", 6);
        hasFaultInE("rowa", 0);
        hasFaultInE("rowz", 0);
        hasFaultInE("row`", 3);
        hasFaultInE("row{", 3);
        hasFaultInE("rowA", 3);
        hasFaultInE("rowZ", 3);
        hasFaultInE("ROW", 0);
        hasFaultInE("Row", 0);
        hasFaultInE("row_", 3);
    }

    private static void numbers() {
        says(8, "NUMBERS (as many digits as stand there, 4 at most)");
        isE("0");
        isE("9");
        isE("9999");
        isE("0000");
        value("0009", 9);
        value("9999-9990", 9);
        value("10", 10);
        hasFaultInE("10000", 0);
        hasFaultInE("00000", 0);
        hasFaultInE("99999", 0);
        hasFaultInE("1+12345", 2);
        hasFaultInE("1+12345678901234567890", 2);
        hasFaultInE("- 12345 1", 2);
        hasFaultInE("(12345 1)", 1);
        hasFaultInE("1234 5", 5);
        hasFaultInE("5/", 1);
        hasFaultInE("5:", 1);
    }

    private static void signs() {
        says(8, "SIGNS ( ) ; + - * < = ; blanks (32, 10) may stand between.");
        for (int b = 0; b < 256; b++) {
            String text = "sounds 5" + (char) b + "5;turns 1;joys 1;";
            boolean joins = "+-*<=".indexOf(b) >= 0 || b >= '0' && b <= '9';
            boolean standsAlone = b == 32 || b == 10 || b == ';';
            if (joins) {
                isText(text);
            } else {
                due("byte " + b + " behind a NUMBER", read(new BackSeat(), text), -100 - (standsAlone ? 9 : 8));
            }
        }
        isE("(5)");
    }

    private static void bytesThatStandAlone() {
        says(8, "also of a byte that begins none");
        for (int b = 0; b < 256; b++) {
            boolean isBlank = b == 32 || b == 10;
            String text = "sounds 5 " + (char) b + ";turns 1;joys 1;";
            boolean isSum = b == '+' || b == '-' || b == '*' || b == '<' || b == '=';
            int place = isSum || b == ';' ? 10 : 9;
            due("byte " + b + " between", read(new BackSeat(), text), isBlank ? 1 : -100 - place);
        }
        hasFaultInE("- # 1", 2);
        hasFaultInE("( # 1)", 2);
        hasFaultInE("not # 1", 4);
        hasFaultInE("1 - # 1", 4);
        hasFault("\u0000" + SHORT, 0);
        hasFault("\u00ff" + SHORT, 0);
        hasFault(SHORT + "#", 24);
        hasFault(SHORT + " \u0080", 25);
        hasFault("sounds # 12345;turns 1;joys 1;", 7);
        hasFault("sounds 12345 # ;turns 1;joys 1;", 7);
    }

    private static void blanks() {
        says(8, "blanks (32, 10) may stand between");
        isText(" \n \nsounds\n\n1 \n;\nturns\n1\n;\njoys\n1\n; \n");
        isText("sounds(1);turns(1);joys(1);");
        hasFault("sounds\t1;turns 1;joys 1;", 6);
        hasFault("sounds\r1;turns 1;joys 1;", 6);
        hasFault("sounds\u000b1;turns 1;joys 1;", 6);
        hasFault("sounds\u001f1;turns 1;joys 1;", 6);
        hasFault("sounds!1;turns 1;joys 1;", 6);
        hasFault("so unds 1;turns 1;joys 1;", 0);
        hasFaultInE("ro w", 0);
        hasFaultInE("1\n2", 2);
    }

    // ---- the grammar

    private static void aTextsThreeParts() {
        says(8, "TEXT: sounds E ; turns E ; joys E ;");
        isText(SHORT);
        hasFault("turns 1;sounds 1;joys 1;", 0);
        hasFault("sounds 1;joys 1;turns 1;", 9);
        hasFault("sounds 1;turns 1;turns 1;", 17);
        hasFault("sounds 1;sounds 1;turns 1;joys 1;", 9);
        hasFault("sounds;turns 1;joys 1;", 6);
        hasFault("sounds 1;turns;joys 1;", 14);
        hasFault("sounds 1;turns 1;joys;", 21);
        hasFault("sounds 1 turns 1;joys 1;", 9);
        hasFault(SHORT + ";", 24);
        hasFault(SHORT + SHORT, 24);
        hasFault("1;turns 1;joys 1;", 0);
        hasFault(";", 0);
    }

    private static void or() {
        says(8, "E: AND { or AND }");
        isE("1 or 1 or 1 or 1");
        hasFaultInE("or 1", 0);
        hasFaultInE("1 or", 4);
        hasFaultInE("1 or or 1", 5);
        value("1 or 1 and 0", 1);
        value("0 and 0 or 1", 1);
    }

    private static void and() {
        says(8, "AND: NOT { and NOT }.");
        isE("1 and 1 and 1 and 1");
        hasFaultInE("and 1", 0);
        hasFaultInE("1 and", 5);
        hasFaultInE("1 and and 1", 6);
        value("1 and not 0 and 1", 1);
        value("1 and 1 and 0", 0);
    }

    private static void not() {
        says(8, "NOT: not NOT, or SUM, perhaps < or = and a SUM.");
        isE("1 < 2");
        isE("1 = 2");
        hasFaultInE("1 < 2 < 3", 6);
        hasFaultInE("1 = 2 = 3", 6);
        hasFaultInE("1 < 2 = 3", 6);
        hasFaultInE("1 <", 3);
        hasFaultInE("< 1", 0);
        hasFaultInE("= 1", 0);
        hasFaultInE("1 <= 2", 3);
        hasFaultInE("1 == 2", 3);
        hasFaultInE("1 < not 2", 4);
        hasFaultInE("1 + not 2", 4);
        hasFaultInE("1 * not 2", 4);
        hasFaultInE("- not 2", 2);
        hasFaultInE("not", 3);
        value("not not 5", 1);
        value("not 5 = 6", 1);
        value("not 5 < 6", 0);
    }

    private static void sum() {
        says(8, "SUM: TERM { + or - TERM }.");
        isE("1 + 1 - 1 + 1");
        hasFaultInE("+ 1", 0);
        hasFaultInE("1 +", 3);
        hasFaultInE("1 + + 1", 4);
        value("9 - 3 - 2", 4);
        value("9 - 3 + 2", 8);
        value("2 + 3 * 4", 14);
    }

    private static void term() {
        says(8, "TERM: ONE { * ONE }.");
        isE("1 * 1 * 1 * 1");
        hasFaultInE("* 1", 0);
        hasFaultInE("1 *", 3);
        hasFaultInE("1 * * 1", 4);
        value("2 * 3 * 4", 24);
        value("2 * 3 + 4", 10);
    }

    private static void oneOfFour() {
        says(8, "ONE: a NUMBER, a NAME, - ONE, ( E ).");
        isE("- 1");
        isE("1 - - 1");
        isE("1 * - 1");
        isE("- row");
        isE("- (1 or 0)");
        hasFaultInE("-", 1);
        hasFaultInE("(1", 2);
        hasFaultInE("1)", 1);
        hasFaultInE("()", 1);
        hasFaultInE("(1 1)", 3);
        hasFaultInE(")", 0);
        value("-2 * -3", 6);
        value("10 - -2", 12);
        value("-2 + 7", 5);
        value("(0 or 1) + 4", 5);
        value("2 * (3 + 4)", 14);
    }

    private static void names() {
        says(8, "NAMES are row column mile number beside friend; sounds, turns, joys, or, and, not are KEYS.");
        for (String name : new String[] {"row", "column", "mile", "number", "beside", "friend"}) {
            isE(name);
        }
        for (String key : new String[] {"sounds", "turns", "joys", "or", "and"}) {
            hasFaultInE(key, 0);
        }
        hasFaultInE("not", 3);
        hasFaultInE("row row", 4);
        hasFaultInE("1 turns 1", 2);
    }

    private static void whatNamesAre() {
        says(8, "Of a PASSENGER on a SEAT in a MILE: row, column; mile: the MILE; number: NUMBER;");
        value("row", 5);
        value("column", 1);
        value("mile", 12);
        value("number", 7);
        BackSeat x = rule(coach(one(CHILD, 9, 0)), "sounds row+column+mile;turns number;joys 0;");
        due("the least", x.told(0, 6), 0);
        due("NUMBER", x.told(0, 7), 9);
        x.set(0, 0, 99);
        due("MILE 99", x.told(0, 6), 99);
    }

    private static void besideIs() {
        says(8, "beside: how many sit BESIDE one; friend: 1, if one's FRIEND does, else 0.");
        value("beside", 2);
        value("friend", 1);
        BackSeat x = rule(coach(one(CHILD, 0, 8), one(CHILD, 0, 9)), "sounds 5+beside;turns 5+friend;joys 0;");
        due("one BESIDE", x.told(0, 6), 6);
        due("no FRIEND", x.told(0, 7), 5);
        x.set(3, 1, 0);
        due("it is the other's FRIEND", x.told(0, 7), 5);
        due("one's own FRIEND", x.told(1, 7), 6);
        x.sit(1, 10);
        due("none BESIDE", x.told(0, 6), 5);
        due("the FRIEND in the same ROW", x.told(1, 7), 5);
        x.sit(0, NONE);
        due("a FRIEND who stands", x.told(1, 7), 5);
    }

    // ---- values

    private static void anInt() {
        says(8, "An E is an int (32 bits, wrapping)");
        value("9999*9999*21 + 9999*4790 + 8416 < 0", 0);
        value("9999*9999*21 + 9999*4790 + 8417 < 0", 1);
        value("-(9999*9999*21 + 9999*4790 + 8416) < 0", 1);
        value("-(9999*9999*21 + 9999*4790 + 8417) < 0", 1);
        value("-(9999*9999*21 + 9999*4790 + 8418) < 0", 0);
        value("(9999*9999*21 + 9999*4790 + 8417) - 1 < 0", 0);
        // 99980001 * 43 is 4299140043, 4172747 behind 32 bits; 417 * 9999 is 4169583
        value("9999 * 9999 * 43 - 417 * 9999 - 3100", 64);
        // 65536 * 65536 is 0
        value("(4096*16) * (4096*16) + 5", 5);
    }

    private static void oneOrZero() {
        says(8, "of or, and, not, <, = 1 or 0 (what is not 0 is true).");
        value("7 or 8", 1);
        value("0 or 8", 1);
        value("8 or 0", 1);
        value("0 or 0", 0);
        value("7 and 8", 1);
        value("7 and 0", 0);
        value("0 and 7", 0);
        value("-1 and 1", 1);
        value("-1 or 0", 1);
        value("not 0", 1);
        value("not 1", 0);
        value("not 7", 0);
        value("not -1", 0);
        value("4 < 5", 1);
        value("5 < 5", 0);
        value("6 < 5", 0);
        value("-1 < 0", 1);
        value("5 = 5", 1);
        value("5 = 6", 0);
        value("5 = 4", 0);
        value("(5 = 5) + (4 < 5) + 7", 9);
        value("5 + (7 or 8) + (7 and 8) + (not 0)", 8);
        value("5 + (0 or 0)", 5);
        value("5 + (7 and 0)", 5);
        value("5 + (not 7)", 5);
        value("5 + (5 < 5)", 5);
        value("5 + (5 = 6)", 5);
    }

    // ---- FAULTS

    private static void theFirstToken() {
        says(8, "FAULT: the place of the first byte of the first TOKEN that can't stand there");
        hasFault("sounds 1 1;turns ;joys", 9);
        hasFault("sounds   or;turns 1;joys 1;", 9);
        hasFault("\n\nturns", 2);
        hasFault("sounds 1 turns", 9);
        hasFault("sounds 1 #;", 9);
        hasFault("sounds # #;", 7);
        hasFault("sounds 1 1 12345", 9);
        hasFault("sounds 1 or 12345 row", 12);
        StringBuilder b = new StringBuilder("sounds 1;turns 1;joys 1;");
        while (b.length() < 159) {
            b.append('\n');
        }
        hasFault(b + "1", 159);
    }

    private static void endsTooEarly() {
        says(8, "(the text's size, if it ends too early)");
        String text = SHORT;
        int[] places = {0, 0, 0, 0, 0, 0, 6, 7, 8, 9, 9, 9, 9, 9, 14, 15, 16, 17, 17, 17, 17, 21, 22, 23};
        for (int size = 0; size < text.length(); size++) {
            hasFault(text.substring(0, size), places[size]);
        }
        isText(text);
        hasFault("   ", 3);
        hasFault("sounds 1 ", 9);
        hasFault("sounds 1\n\n", 10);
        hasFault("sounds (1 + ", 12);
        hasFault("sounds - ", 9);
        hasFault("sounds not ", 11);
    }

    private static void aWordThatIsNeither() {
        says(8, "a WORD that is neither KEY nor NAME");
        for (String word : new String[] {"ro", "rows", "colum", "columns", "mil", "miles", "numbe", "numbers", "besid",
            "besides", "frien", "friends", "sound", "turn", "joy", "nor", "an", "ands", "no", "nots", "o", "ors", "x"}) {
            hasFaultInE(word, 0);
            hasFaultInE("1 " + word, 2);
            hasFaultInE("1 + " + word, 4);
        }
        for (String word : new String[] {"mow", "dolumn", "nile", "lumber", "reside", "griend", "bounds", "burns", "boys",
            "ar", "und", "hot", "raw", "rot"}) {
            hasFaultInE(word, 0);
        }
        hasFaultInE("- x 1", 2);
        hasFaultInE("( x 1)", 2);
        hasFaultInE("not x 1", 4);
        hasFaultInE("1 - x 1", 4);
        hasFault("soundz 1;turns 1;joys 1;", 0);
        hasFault("kounds 1;turns 1;joys 1;", 0);
        hasFault("sounds 1;turn 1;joys 1;", 9);
        hasFault("sounds 1;turns 1;joy 1;", 17);
    }

    private static void aNumberThatIsTooLong() {
        says(8, "a NUMBER that is too long");
        isE("9999 + 9999");
        hasFaultInE("9999 + 99990", 7);
        hasFaultInE("9999 99990", 5);
        hasFaultInE("row 99990", 4);
        hasFault("12345", 0);
        hasFault(SHORT + "12345", 24);
    }

    private static void fiveMayBeOpen() {
        says(8, "a ( , a not, a - ahead of a ONE while 5 of these are open");
        isE("(((((1)))))");
        hasFaultInE("((((((1))))))", 5);
        isE("-----1");
        hasFaultInE("------1", 5);
        isE("not not not not not 1");
        hasFaultInE("not not not not not not 1", 20);
        isE("not (-(-1))");
        isE("not not(-(1))");
        isE("not not(--1)");
        hasFaultInE("not not(-(-1))", 10);
        hasFaultInE("not not(--(1))", 10);
        isE("not not not -(1)");
        hasFaultInE("not not not -(-1)", 14);
        hasFaultInE("not not not -((1))", 14);
        hasFaultInE("(not (not (not 1)))", 11);
        hasFaultInE("(((((not 1)))))", 5);
        hasFaultInE("(((((-1)))))", 5);
        hasFaultInE("-----(1)", 5);
        isE("((((-1))))");
        isE("((((not 1))))");
        isE("----(1)");
    }

    private static void aMinusBetweenIsNotOpen() {
        says(8, "a - ahead of a ONE");
        isE("(((((1-1)))))");
        isE("1-1-1-1-1-1-1");
        isE("1-----1+1");
        isE("1------1");
        hasFaultInE("1-------1", 7);
        hasFaultInE("(((((1--1)))))", 7);
    }

    private static void tillItEnds() {
        says(8, "(a ( till its ) , not and - till what they belong to ends).");
        isE("(((((1)))))+(((((1)))))");
        isE("(1)+(1)+(1)+(1)+(1)+(1)");
        isE("-1+-1+-1+-1+-1+-1");
        isE("----(1)*-1");
        isE("((((-1+-1))))");
        isE("((((-1*-1))))");
        isE("(((-(1))))");
        isE("((((not 1 and not 1 or not 1))))");
        isE("not 1 and not 1 and not 1 and not 1 and not 1 and not 1");
        isE("((((not 1 and (1)))))");
        hasFaultInE("((((not (1)))))", 8);
        hasFaultInE("((((not 1 + (1)))))", 12);
        hasFaultInE("((((not 1 < (1)))))", 12);
        hasFaultInE("((((not 1 * -1))))", 12);
        hasFaultInE("((((-(1)))))", 5);
        isE("((((-1*(1)))))");
        hasFaultInE("not not not not not (1)", 20);
        isE("not not not not not 1 or (1)");
        isE("(((((1))))) < (((((1)))))");
    }

    private static void whatWasOpenEndsWithAFault() {
        says(8, "while 5 of these are open");
        BackSeat x = new BackSeat();
        due("a FAULT while 5 are open", read(x, "sounds (((((#"), -112);
        due("5 may be open again", read(x, "sounds (((((1)))));turns (((((1)))));joys -----1;"), 1);
    }

    // ---- promise 9

    private static void force() {
        says(9, "A TEXT is THE RULE: which was. BAD.");
        BackSeat x = coach(one(CHILD, 0, 0));
        due("force(0)", x.force(0), 0);
        due("force(1), none such", x.force(1), BAD);
        read(x, "sounds 33;turns 2;joys 4;");
        due("NOISE by TEXT 0", x.told(0, 6), 5);
        due("force(1)", x.force(1), 0);
        due("NOISE by TEXT 1", x.told(0, 6), 33);
        due("QUEASY by TEXT 1", x.told(0, 7), 2);
        due("JOY by TEXT 1", x.all(1), 4);
        due("force(0) again", x.force(0), 1);
        refuses("force(2), none such", y -> y.force(2), BAD);
        refuses("force(-1)", y -> y.force(-1), BAD);
        refuses("force(6)", y -> y.force(6), BAD);
        refuses("force(MAX)", y -> y.force(MAX), BAD);
        refuses("force(MIN)", y -> y.force(MIN), BAD);
        due("force(5) of 6", fullTexts().force(5), 0);
        refusesOn(TextBoundsTest::fullTexts, "force(6) of 6", y -> y.force(6), BAD);
    }

    private static void eachTextIsItsOwn() {
        says(9, "A TEXT is THE RULE");
        BackSeat x = coach(one(CHILD, 0, 0));
        for (int i = 1; i <= 5; i++) {
            read(x, "sounds " + 10 * i + ";turns " + i + ";joys -" + i + ";");
        }
        for (int i = 5; i >= 1; i--) {
            due("force(" + i + ")", x.force(i), i == 5 ? 0 : i + 1);
            due("NOISE", x.told(0, 6), 10 * i);
            due("QUEASY", x.told(0, 7), i);
            due("JOY", x.all(1), -i);
        }
    }

    private static void theLongestTextsStandTogether() {
        says(9, "A TEXT is THE RULE");
        BackSeat x = coach(one(CHILD, 0, 0));
        read(x, ones(1));
        read(x, ones(2));
        x.force(1);
        due("NOISE by the first", x.told(0, 6), 67);
        x.force(2);
        due("NOISE by the second", x.told(0, 6), 68);
        due("JOY by the second", x.all(1), 2);
    }

    /** 160 bytes: sounds first+1+1 .. (66 times + 1). */
    private static String ones(int first) {
        StringBuilder b = new StringBuilder("sounds " + first);
        while (b.length() < 140) {
            b.append("+1");
        }
        return b.append(";turns  9 ;joys 2  ;").toString();
    }
}
