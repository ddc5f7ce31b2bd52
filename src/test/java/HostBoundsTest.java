/** The bounds of promises 25 to 29: SHEETS, and PASSENGERS taken for others. */
public final class HostBoundsTest extends Bounds {
    public static void main(String[] args) {
        runAll(HostBoundsTest.class);
    }

    // ---- helpers

    /** Whether items 2 i and 2 i + 1 of a SHEET are KIND and NUMBER of the one who comes by them. */
    private static void pairIs(BackSeat x, int sheet, int sort, int i, int kind, int number) {
        String what = "items " + i + " and " + (i + 1) + " of " + sheet;
        int before = x.count(0);
        due(what, x.passengers(sheet, sort, i, 1), 1);
        due(what + ", the first", x.told(before, 4), kind);
        due(what + ", the second", x.told(before, 2), number);
    }

    /** Whether all of a SHEET's items are 0: PASSENGERS come by them, eight at a time, and go again. */
    private static void allAreZero(BackSeat x, int sheet, int sort, int n) {
        x.image();
        for (int from = 0; from < n; from += 16) {
            int pairs = Math.min(8, (n - from) / 2);
            due("pairs from " + from, x.passengers(sheet, sort, from, pairs), pairs);
            for (int one = 0; one < pairs; one++) {
                due("the first of pair " + one, x.told(one, 4), 0);
                due("the second of pair " + one, x.told(one, 2), 0);
            }
            x.back();
        }
    }

    // ---- promise 25

    private static void sheetsZeroToThree() {
        says(25, "SHEETS 0 .. 3 are rows of numbers, or missing (as all are at first)");
        BackSeat x = new BackSeat();
        for (int sheet = 0; sheet < 4; sheet++) {
            due("cell(" + sheet + ", 0, 0) at first", x.cell(sheet, 0, 0), NOTHING);
            due("sheet(" + sheet + ", 0, 1)", x.sheet(sheet, 0, 1), 1);
            due("cell(" + sheet + ", 0, 0)", x.cell(sheet, 0, 0), 1);
        }
        refuses("sheet(4, 0, 1)", y -> y.sheet(4, 0, 1), BAD);
        refuses("sheet(-1, 0, 1)", y -> y.sheet(-1, 0, 1), BAD);
        refuses("sheet(MAX, 0, 1)", y -> y.sheet(MAX, 0, 1), BAD);
        refuses("sheet(MIN, 0, 1)", y -> y.sheet(MIN, 0, 1), BAD);
        refuses("sheet(4, -1, 1)", y -> y.sheet(4, -1, 1), BAD);
        refuses("sheet(-1, -1, 0)", y -> y.sheet(-1, -1, 0), BAD);
    }

    private static void sorts() {
        says(25, "of sort 0 bytes, 1 shorts, 2 ints.");
        BackSeat x = rule(coach(one(LOUD, 9, 20)), "sounds 99;turns 0;joys 0;");
        due("207 in a byte isn't 207", row(x, 0, 0, 207).tells(0, 0), 1);
        due("207 in a short", row(x, 0, 1, 207).tells(0, 0), 0);
        due("65536 more in a short", row(x, 0, 1, 207 + 65536).tells(0, 0), 0);
        due("207 in an int", row(x, 0, 2, 207).tells(0, 0), 0);
        due("65536 more in an int", row(x, 0, 2, 207 + 65536).tells(0, 0), 1);
        refuses("sheet(0, 3, 1)", y -> y.sheet(0, 3, 1), BAD);
        refuses("sheet(0, -2, 1)", y -> y.sheet(0, -2, 1), BAD);
        refuses("sheet(0, MAX, 1)", y -> y.sheet(0, MAX, 1), BAD);
        refuses("sheet(0, MIN, 1)", y -> y.sheet(0, MIN, 1), BAD);
    }

    private static void fortyAtMost() {
        says(25, "BAD: no such SHEET, sort; n above 40; -14.");
        BackSeat x = new BackSeat();
        for (int sort = 0; sort <= 2; sort++) {
            due("sheet of 40", x.sheet(0, sort, 40), 1);
            due("its item 39", x.cell(0, 39, 1), 1);
            due("its item 40", x.cell(0, 40, 1), OUTSIDE);
            due("sheet of 0", x.sheet(0, sort, 0), 1);
            due("its item 0", x.cell(0, 0, 1), OUTSIDE);
            due("sheet of 1", x.sheet(0, sort, 1), 1);
            due("item 0", x.cell(0, 0, 1), 1);
            due("item 1", x.cell(0, 1, 1), OUTSIDE);
        }
        for (int n : new int[] {41, 42, 1000, MAX}) {
            refuses("sheet(0, 0, " + n + ")", y -> y.sheet(0, 0, n), BAD);
            refuses("sheet(3, 2, " + n + ")", y -> y.sheet(3, 2, n), BAD);
        }
        for (int n : new int[] {-1, -40, MIN}) {
            refuses("sheet(0, 0, " + n + ")", y -> y.sheet(0, 0, n), BELOW);
            refuses("sheet(3, 2, " + n + ")", y -> y.sheet(3, 2, n), BELOW);
            refuses("sheet(4, 0, " + n + "), BAD ahead of -14", y -> y.sheet(4, 0, n), BAD);
            refuses("sheet(0, 3, " + n + "), BAD ahead of -14", y -> y.sheet(0, 3, n), BAD);
            refuses("sheet(0, -2, " + n + "), BAD ahead of -14", y -> y.sheet(0, -2, n), BAD);
        }
    }

    private static void allZero() {
        says(25, "A SHEET becomes a row of n of a sort, all 0");
        BackSeat x = new BackSeat();
        due("sheet(0, 0, 40)", x.sheet(0, 0, 40), 1);
        allAreZero(x, 0, 0, 40);
        for (int i = 0; i < 40; i++) {
            x.cell(0, i, 1);
        }
        due("the same again", x.sheet(0, 0, 40), 1);
        allAreZero(x, 0, 0, 40);
        BackSeat y = row(new BackSeat(), 0, 2, 1, 2, 3, 4, 5, 6);
        due("smaller, of another sort", y.sheet(0, 1, 2), 1);
        due("larger again", y.sheet(0, 2, 6), 1);
        allAreZero(y, 0, 2, 6);
        BackSeat z = row(new BackSeat(), 1, 0, 1, 2, 3, 4);
        z.sheet(1, -1, 0);
        z.sheet(1, 0, 4);
        allAreZero(z, 1, 0, 4);
    }

    private static void orMissing() {
        says(25, "or missing (sort -1: n does not matter): 1.");
        for (int n : new int[] {0, 1, 40, 41, -1, MAX, MIN}) {
            BackSeat x = someCoach();
            due("sheet(0, -1, " + n + ")", x.sheet(0, -1, n), 1);
            due("cell(0, 0, 0)", x.cell(0, 0, 0), NOTHING);
            due("of one that is missing", x.sheet(3, -1, n), 1);
            due("another stays", x.cell(2, 11, 0), 1);
        }
        BackSeat y = someCoach();
        y.sheet(2, -1, 0);
        due("passengers by it", y.passengers(2, 2, 0, 1), NOTHING);
        due("a row again", y.sheet(2, 0, 3), 1);
        due("passengers by it then", y.passengers(2, 0, 0, 1), 1);
    }

    private static void eachSheetIsItsOwn() {
        says(25, "A SHEET becomes a row of n of a sort");
        BackSeat x = new BackSeat();
        for (int sheet = 0; sheet < 4; sheet++) {
            row(x, sheet, sheet % 3, sheet, 2 * sheet);
        }
        for (int sheet = 3; sheet >= 0; sheet--) {
            pairIs(x, sheet, sheet % 3, 0, sheet, 2 * sheet);
        }
    }

    // ---- promise 26

    private static void cellOfASheet() {
        says(26, "Item i of a SHEET becomes v");
        BackSeat x = new BackSeat();
        row(x, 0, 2, 1, 2, 3, 4);
        due("cell(0, 0, 5)", x.cell(0, 0, 5), 1);
        due("cell(0, 3, 9)", x.cell(0, 3, 9), 1);
        pairIs(x, 0, 2, 0, 5, 2);
        pairIs(x, 0, 2, 2, 3, 9);
        refuses("cell(4, 0, 1)", y -> y.cell(4, 0, 1), BAD);
        refuses("cell(-1, 0, 1)", y -> y.cell(-1, 0, 1), BAD);
        refuses("cell(MAX, 0, 1)", y -> y.cell(MAX, 0, 1), BAD);
        refuses("cell(MIN, 0, 1)", y -> y.cell(MIN, 0, 1), BAD);
        refuses("cell(4, -1, 1)", y -> y.cell(4, -1, 1), BAD);
    }

    private static void cellOutside() {
        says(26, "BAD: no such SHEET; -11; -12.");
        refuses("cell(3, 0, 1), missing", y -> y.cell(3, 0, 1), NOTHING);
        refuses("cell(3, -1, 1), -11 ahead of -12", y -> y.cell(3, -1, 1), NOTHING);
        refuses("cell(3, 40, 1), -11 ahead of -12", y -> y.cell(3, 40, 1), NOTHING);
        refuses("cell(0, 6, 1) of 6", y -> y.cell(0, 6, 1), OUTSIDE);
        refuses("cell(0, -1, 1)", y -> y.cell(0, -1, 1), OUTSIDE);
        refuses("cell(1, 4, 1) of 4", y -> y.cell(1, 4, 1), OUTSIDE);
        refuses("cell(2, 12, 1) of 12", y -> y.cell(2, 12, 1), OUTSIDE);
        refuses("cell(0, MAX, 1)", y -> y.cell(0, MAX, 1), OUTSIDE);
        refuses("cell(0, MIN, 1)", y -> y.cell(0, MIN, 1), OUTSIDE);
        refusesOn(() -> row(new BackSeat(), 0, 0), "cell(0, 0, 1) of 0", y -> y.cell(0, 0, 1), OUTSIDE);
    }

    private static void lowestBits() {
        says(26, "Item i of a SHEET becomes v (of bytes, shorts its lowest 8, 16 bits): 1.");
        BackSeat x = row(new BackSeat(), 0, 0, 256 + 5, -256 + 9, MIN, 65536);
        pairIs(x, 0, 0, 0, 5, 9);
        pairIs(x, 0, 0, 2, 0, 0);
        BackSeat y = row(new BackSeat(), 0, 1, 65536 + 5, -65536 + 9, MIN, 1 << 16, 256, 0);
        pairIs(y, 0, 1, 0, 5, 9);
        pairIs(y, 0, 1, 2, 0, 0);
        due("256 in a short is no KIND", y.passengers(0, 1, 4, 1), 0);
        BackSeat z = row(new BackSeat(), 0, 2, 65536, 0, 0, MIN, 256, 256);
        due("65536 in an int is no KIND", z.passengers(0, 2, 0, 1), 0);
        due("MIN in an int is no NUMBER", z.passengers(0, 2, 2, 1), 0);
        due("256 in an int is no KIND", z.passengers(0, 2, 4, 1), 0);
        BackSeat w = row(new BackSeat(), 0, 0, 0, 127, 0, 128, 0, 255, 0, 256);
        due("127, 128, 255 in bytes are no NUMBERS, 256 is 0", w.passengers(0, 0, 0, 4), 1);
        due("the NUMBER", w.told(0, 2), 0);
    }

    /** 180 is -76 in a byte, and no NOISE is below 0. */
    private static void bytesHaveSigns() {
        says(26, "of bytes, shorts its lowest 8, 16 bits");
        BackSeat x = rule(coach(one(LOUD, 0, 8)), "sounds 90;turns 0;joys 0;");
        due("180 in a byte", row(x, 0, 0, 180).tells(0, 0), 1);
        due("180 in a short", row(x, 0, 1, 180).tells(0, 0), 0);
        BackSeat y = rule(coach(one(LOUD, 0, 8)), "sounds 63;turns 0;joys 0;");
        due("126 in a byte", row(y, 0, 0, 126).tells(0, 0), 0);
    }

    // ---- promise 27

    private static void copies() {
        says(27, "n numbers of a SHEET, from item i on, come to another one's item j on");
        BackSeat x = row(row(new BackSeat(), 0, 2, 1, 2, 3, 4, 0, 5), 1, 2, 0, 0, 0, 0);
        due("copy(0, 1, 1, 0, 4)", x.copy(0, 1, 1, 0, 4), 4);
        pairIs(x, 1, 2, 0, 2, 3);
        pairIs(x, 1, 2, 2, 4, 0);
        due("copy(0, 0, 1, 3, 1), from the first item to the last", x.copy(0, 0, 1, 3, 1), 1);
        pairIs(x, 1, 2, 2, 4, 1);
        due("copy(0, 5, 1, 0, 1), from the last to the first", x.copy(0, 5, 1, 0, 1), 1);
        pairIs(x, 1, 2, 0, 5, 3);
        pairIs(x, 0, 2, 0, 1, 2);
        pairIs(x, 0, 2, 4, 0, 5);
    }

    private static void copiesOfEachSort() {
        says(27, "-13: they are of unlike sorts");
        for (int sort = 0; sort <= 2; sort++) {
            BackSeat x = row(row(new BackSeat(), 0, sort, 3, 7), 1, sort, 0, 0);
            due("sort " + sort, x.copy(0, 0, 1, 0, 2), 2);
            pairIs(x, 1, sort, 0, 3, 7);
        }
        refuses("copy(0, 0, 1, 0, 1), bytes and shorts", x -> x.copy(0, 0, 1, 0, 1), UNLIKE);
        refuses("copy(1, 0, 0, 0, 1), shorts and bytes", x -> x.copy(1, 0, 0, 0, 1), UNLIKE);
        refuses("copy(1, 0, 2, 0, 1), shorts and ints", x -> x.copy(1, 0, 2, 0, 1), UNLIKE);
        refuses("copy(2, 0, 0, 0, 1), ints and bytes", x -> x.copy(2, 0, 0, 0, 1), UNLIKE);
        refuses("copy(0, 0, 1, 0, 0), also of none", x -> x.copy(0, 0, 1, 0, 0), UNLIKE);
        refuses("copy(0, 9, 1, 0, 1), -13 ahead of -12", x -> x.copy(0, 9, 1, 0, 1), UNLIKE);
        refuses("copy(0, 0, 1, 0, -1), -13 ahead of -12", x -> x.copy(0, 0, 1, 0, -1), UNLIKE);
    }

    private static void asTheyWere() {
        says(27, "(as they were): n.");
        BackSeat x = row(new BackSeat(), 0, 0, 1, 2, 3, 4, 5, 0);
        due("one item up", x.copy(0, 0, 0, 1, 5), 5);
        pairIs(x, 0, 0, 0, 1, 1);
        pairIs(x, 0, 0, 2, 2, 3);
        pairIs(x, 0, 0, 4, 4, 5);
        due("one item down", x.copy(0, 1, 0, 0, 5), 5);
        pairIs(x, 0, 0, 0, 1, 2);
        pairIs(x, 0, 0, 2, 3, 4);
        pairIs(x, 0, 0, 4, 5, 5);
        due("all to where they are", x.copy(0, 0, 0, 0, 6), 6);
        pairIs(x, 0, 0, 4, 5, 5);
    }

    private static void copySheets() {
        says(27, "BAD: no such SHEET; -11;");
        refuses("copy(4, 0, 0, 0, 1)", x -> x.copy(4, 0, 0, 0, 1), BAD);
        refuses("copy(0, 0, 4, 0, 1)", x -> x.copy(0, 0, 4, 0, 1), BAD);
        refuses("copy(-1, 0, 0, 0, 1)", x -> x.copy(-1, 0, 0, 0, 1), BAD);
        refuses("copy(0, 0, -1, 0, 1)", x -> x.copy(0, 0, -1, 0, 1), BAD);
        refuses("copy(MAX, 0, MIN, 0, 1)", x -> x.copy(MAX, 0, MIN, 0, 1), BAD);
        refuses("copy(3, 0, 4, 0, 1), BAD ahead of -11", x -> x.copy(3, 0, 4, 0, 1), BAD);
        refuses("copy(4, 0, 3, 0, 1), BAD ahead of -11", x -> x.copy(4, 0, 3, 0, 1), BAD);
        refuses("copy(0, 0, 3, 0, 1), missing", x -> x.copy(0, 0, 3, 0, 1), NOTHING);
        refuses("copy(3, 0, 0, 0, 1), missing", x -> x.copy(3, 0, 0, 0, 1), NOTHING);
        refuses("copy(3, 0, 3, 0, 0), both", x -> x.copy(3, 0, 3, 0, 0), NOTHING);
        refuses("copy(3, -1, 0, 0, -1), -11 ahead of -12", x -> x.copy(3, -1, 0, 0, -1), NOTHING);
        BackSeat y = row(row(new BackSeat(), 0, 0, 1, 2), 3, 0, 3, 4);
        due("from SHEET 0 to 3", y.copy(0, 0, 3, 0, 1), 1);
        due("from SHEET 3 to 0", y.copy(3, 1, 0, 1, 1), 1);
        pairIs(y, 0, 0, 0, 1, 4);
        pairIs(y, 3, 0, 0, 1, 4);
    }

    private static BackSeat sixAndFour() {
        return row(row(new BackSeat(), 0, 0, 1, 2, 3, 4, 5, 6), 1, 0, 5, 4, 3, 2);
    }

    private static void sixAndFourRefuse(int i, int j, int n) {
        refusesOn(HostBoundsTest::sixAndFour, "copy(0, " + i + ", 1, " + j + ", " + n + ")", x -> x.copy(0, i, 1, j, n), OUTSIDE);
    }

    private static void copyOutside() {
        says(27, "-12 (also with n below 0).");
        due("all 4", sixAndFour().copy(0, 2, 1, 0, 4), 4);
        due("the last", sixAndFour().copy(0, 5, 1, 3, 1), 1);
        due("none", sixAndFour().copy(0, 0, 1, 0, 0), 0);
        due("none, behind the last", sixAndFour().copy(0, 6, 1, 4, 0), 0);
        sixAndFourRefuse(0, 0, 5);
        sixAndFourRefuse(3, 0, 4);
        sixAndFourRefuse(0, 1, 4);
        sixAndFourRefuse(6, 0, 1);
        sixAndFourRefuse(0, 4, 1);
        sixAndFourRefuse(7, 0, 0);
        sixAndFourRefuse(0, 5, 0);
        sixAndFourRefuse(-1, 0, 1);
        sixAndFourRefuse(0, -1, 1);
        sixAndFourRefuse(-1, 0, 0);
        sixAndFourRefuse(0, -1, 0);
        sixAndFourRefuse(0, 0, -1);
        sixAndFourRefuse(3, 3, -2);
        sixAndFourRefuse(0, 0, MAX);
        sixAndFourRefuse(0, 0, MIN);
        sixAndFourRefuse(MAX, 0, 1);
        sixAndFourRefuse(0, MAX, 1);
        sixAndFourRefuse(MAX, MAX, MAX);
        sixAndFourRefuse(MIN, MIN, MIN);
        sixAndFourRefuse(1, 0, MAX);
        sixAndFourRefuse(MIN, 0, 1);
    }

    // ---- promise 28

    private static void twoByTwo() {
        says(28, "from one on, two by two (as of passenger()), n of them (0 .. 8): how many came");
        BackSeat x = row(new BackSeat(), 0, 0, 9, 1, 5, 3, 9, 4, 0);
        due("passengers(0, 0, 1, 3)", x.passengers(0, 0, 1, 3), 3);
        int[] kinds = {1, 3, 4};
        int[] numbers = {5, 9, 0};
        for (int i = 0; i < 3; i++) {
            due("KIND of " + i, x.told(i, 4), kinds[i]);
            due("NUMBER of " + i, x.told(i, 2), numbers[i]);
            due("stands " + i, x.told(i, 5), NONE);
            due("no FRIEND " + i, x.told(i, 3), NONE);
        }
        due("n 0", x.passengers(0, 0, 0, 0), 0);
        due("count(0)", x.count(0), 3);
        BackSeat y = row(new BackSeat(), 0, 1, 0, 0, 1, 1, 2, 2, 3, 3, 4, 4, 5, 5, 0, 6, 1, 7, 2, 8);
        due("n 8", y.passengers(0, 1, 0, 8), 8);
        due("the last", y.told(7, 2), 7);
        for (int n : new int[] {9, -1, MAX, MIN}) {
            refuses("passengers(0, 0, 0, " + n + ")", z -> z.passengers(0, 0, 0, n), BAD);
        }
    }

    private static void passengersSheetAndSort() {
        says(28, "BAD: no such SHEET, sort, n;");
        refuses("passengers(4, 0, 0, 1)", x -> x.passengers(4, 0, 0, 1), BAD);
        refuses("passengers(-1, 0, 0, 1)", x -> x.passengers(-1, 0, 0, 1), BAD);
        refuses("passengers(MAX, 0, 0, 1)", x -> x.passengers(MAX, 0, 0, 1), BAD);
        refuses("passengers(MIN, 0, 0, 1)", x -> x.passengers(MIN, 0, 0, 1), BAD);
        refuses("passengers(0, 3, 0, 1)", x -> x.passengers(0, 3, 0, 1), BAD);
        refuses("passengers(0, -1, 0, 1)", x -> x.passengers(0, -1, 0, 1), BAD);
        refuses("passengers(3, -1, 0, 1), of a missing one", x -> x.passengers(3, -1, 0, 1), BAD);
        refuses("passengers(0, MAX, 0, 1)", x -> x.passengers(0, MAX, 0, 1), BAD);
        refuses("passengers(0, MIN, 0, 1)", x -> x.passengers(0, MIN, 0, 1), BAD);
        refuses("passengers(0, 1, 0, 9), BAD ahead of -13", x -> x.passengers(0, 1, 0, 9), BAD);
        refuses("passengers(3, 0, 0, 9), BAD ahead of -11", x -> x.passengers(3, 0, 0, 9), BAD);
        BackSeat y = row(new BackSeat(), 3, 2, 5, 9);
        due("passengers(3, 2, 0, 1)", y.passengers(3, 2, 0, 1), 1);
    }

    private static void takenForOneOfASort() {
        says(28, "PASSENGERS by a SHEET that is taken for one of a sort");
        for (int sort = 0; sort <= 2; sort++) {
            for (int other = 0; other <= 2; other++) {
                int real = sort;
                int taken = other;
                if (sort != other) {
                    refuses("a SHEET of sort " + sort + " for one of " + other, x -> x.passengers(real, taken, 0, 1), UNLIKE);
                }
            }
        }
        refuses("-13, also of none", x -> x.passengers(0, 1, 0, 0), UNLIKE);
        refuses("-13 ahead of -12", x -> x.passengers(0, 1, 99, 1), UNLIKE);
        refuses("-13 ahead of -12, a place below 0", x -> x.passengers(0, 2, -1, 1), UNLIKE);
    }

    private static void passengersByAMissingSheet() {
        says(28, "-13; -11; -12: what stood ahead came.");
        for (int sort = 0; sort <= 2; sort++) {
            int taken = sort;
            refuses("missing, for sort " + sort, x -> x.passengers(3, taken, 0, 1), NOTHING);
            refuses("missing, of none", x -> x.passengers(3, taken, 0, 0), NOTHING);
            refuses("missing, -11 ahead of -12", x -> x.passengers(3, taken, -1, 1), NOTHING);
        }
    }

    private static void whatStoodAheadCame() {
        says(28, "-12: what stood ahead came.");
        BackSeat x = row(new BackSeat(), 0, 0, 1, 5, 3, 9, 4);
        due("passengers(0, 0, 0, 2), within", x.passengers(0, 0, 0, 2), 2);
        due("passengers(0, 0, 0, 3), half a pair", x.passengers(0, 0, 0, 3), OUTSIDE);
        due("count(0), the two came again", x.count(0), 4);
        due("the last of them", x.told(3, 2), 9);
        due("passengers(0, 0, 3, 1), the last pair", x.passengers(0, 0, 3, 1), 0);
        due("passengers(0, 0, 2, 8)", x.passengers(0, 0, 2, 8), OUTSIDE);
        due("count(0), one came", x.count(0), 5);
        BackSeat full = row(standing(8), 0, 0, 1, 5);
        due("also when there is no room", full.passengers(0, 0, 0, 2), OUTSIDE);
        refuses("half a pair", y -> y.passengers(0, 0, 5, 1), OUTSIDE);
        refuses("behind the last", y -> y.passengers(0, 0, 6, 1), OUTSIDE);
        refuses("a place below 0", y -> y.passengers(0, 0, -1, 1), OUTSIDE);
        refuses("a pair below 0", y -> y.passengers(0, 0, -2, 2), OUTSIDE);
        refuses("MAX", y -> y.passengers(0, 0, MAX, 8), OUTSIDE);
        refuses("MIN", y -> y.passengers(0, 0, MIN, 8), OUTSIDE);
        refusesOn(() -> row(new BackSeat(), 0, 0), "a row of none", y -> y.passengers(0, 0, 0, 1), OUTSIDE);
        due("none of a row of none", row(new BackSeat(), 0, 0).passengers(0, 0, 0, 0), 0);
        refuses("none, from outside on", y -> y.passengers(0, 0, 99, 0), 0);
    }

    private static void othersAreLeftOut() {
        says(28, "how many came (others are left out).");
        BackSeat x = row(new BackSeat(), 0, 1, 6, 0, 0, 10, -1, 0, 0, -1, 5, 9, 0, 0);
        due("4 are BAD, 2 come", x.passengers(0, 1, 0, 6), 2);
        due("count(0)", x.count(0), 2);
        due("KIND of the first who came", x.told(0, 4), 5);
        due("KIND of the second", x.told(1, 4), 0);
        BackSeat y = row(standing(6), 0, 0, 1, 1, 2, 2, 3, 3, 4, 4);
        due("2 have room", y.passengers(0, 0, 0, 4), 2);
        due("count(0), FULL", y.count(0), 8);
        due("the last who came", y.told(7, 2), 2);
        due("none has room", y.passengers(0, 0, 0, 4), 0);
        BackSeat z = row(standing(7), 0, 0, 6, 6, 2, 2);
        due("one who is left out takes no room", z.passengers(0, 0, 0, 2), 1);
        due("the last", z.told(7, 4), 2);
    }

    // ---- promise 29

    private static void taken() {
        says(29, "A PASSENGER taken for one of KIND k (0 .. 5), or one under that one (also by others between): the NUMBER.");
        int[][] isTaken = {{CHILD}, {LOUD, CHILD}, {SICKLY, CHILD}, {TOM, LOUD, CHILD}, {BABY, SICKLY, CHILD}, {TEACHER, CHILD}};
        for (int kind = 0; kind <= 5; kind++) {
            BackSeat x = coach(one(kind, 4, NONE));
            for (int k = 0; k <= 5; k++) {
                boolean is = false;
                for (int above : isTaken[kind]) {
                    is |= above == k;
                }
                due("KIND " + kind + " for " + k, x.taken(0, k), is ? 4 : UNLIKE);
            }
        }
        asks("taken(1, 0), by a LOUD between", x -> x.taken(1, 0), 9);
        due("NUMBER 0", coach(one(CHILD, 0, 8)).taken(0, 0), 0);
    }

    private static void takenForWhat() {
        says(29, "BAD: k; -11: no such PASSENGER; -13.");
        for (int k : new int[] {6, -1, MAX, MIN}) {
            refuses("taken(0, " + k + ")", x -> x.taken(0, k), BAD);
            refuses("taken(4, " + k + "), BAD ahead of -11", x -> x.taken(4, k), BAD);
        }
        asks("taken(2, 5)", x -> x.taken(2, 5), 0);
        asks("taken(3, 0), the last PASSENGER", x -> x.taken(3, 0), 4);
        for (int one : new int[] {4, 8, -1, MAX, MIN}) {
            refuses("taken(" + one + ", 0)", x -> x.taken(one, 0), NOTHING);
            refuses("taken(" + one + ", 5), -11 ahead of -13", x -> x.taken(one, 5), NOTHING);
        }
        refusesOn(BackSeat::new, "taken(0, 0) of no PASSENGERS", x -> x.taken(0, 0), NOTHING);
        refuses("taken(0, 1), above is not under", x -> x.taken(0, 1), UNLIKE);
        refuses("taken(1, 4)", x -> x.taken(1, 4), UNLIKE);
        refuses("taken(3, 3)", x -> x.taken(3, 3), UNLIKE);
    }
}
