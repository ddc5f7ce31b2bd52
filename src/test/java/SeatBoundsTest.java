/** The bounds of promises 1 to 6: the new object, SEATS, THE MILE, LIMIT, PASSENGERS. */
public final class SeatBoundsTest extends Bounds {
    public static void main(String[] args) {
        runAll(SeatBoundsTest.class);
    }

    // ---- promise 1

    private static void aNewObjectHasNoPassengers() {
        says(1, "No PASSENGERS.");
        BackSeat x = new BackSeat();
        due("count(0)", x.count(0), 0);
        due("count(1)", x.count(1), 0);
        due("told(0, 5)", x.told(0, 5), BAD);
        due("who(0)", x.who(0), NONE);
        due("who(23)", x.who(23), NONE);
        due("the first passenger(0, 0)", x.passenger(0, 0), 0);
        due("count(0) then", x.count(0), 1);
    }

    private static void objectsHaveNothingInCommon() {
        says(1, "No PASSENGERS.");
        BackSeat other = someCoach();
        BackSeat x = new BackSeat();
        due("count(0)", x.count(0), 0);
        due("count(2)", x.count(2), 1);
        due("count(3)", x.count(3), 0);
        due("cell(0, 0, 0)", x.cell(0, 0, 0), NOTHING);
        due("back()", x.back(), STATE);
        due("the other's count(0)", other.count(0), 4);
    }

    private static void constants() {
        says(1, "NONE is -1; NO, where a long is answered, -4611686018427387904.");
        due("NONE", BackSeat.NONE, -1);
        due("NO", BackSeat.NO, -4611686018427387904L);
        due("BAD", BackSeat.BAD, -2);
        due("STATE", BackSeat.STATE, -3);
        due("FULL", BackSeat.FULL, -4);
    }

    private static void badStateAndFull() {
        says(4, "BAD (-2: a number is none such or not as told), STATE (-3), FULL (-4)");
        BackSeat x = fullCoach();
        due("passenger(6, 0)", x.passenger(6, 0), -2);
        due("sit(0, 9)", x.sit(0, 9), -3);
        due("passenger(0, 0)", x.passenger(0, 0), -4);
    }

    private static void theHostsRefusals() {
        says(26, "the host's: -11 nothing where something is asked, -12 a place outside, -13 a thing of another sort or KIND, "
            + "-14 a size below 0.");
        BackSeat x = someCoach();
        due("cell(3, 0, 0)", x.cell(3, 0, 0), -11);
        due("cell(0, 6, 0)", x.cell(0, 6, 0), -12);
        due("copy(0, 0, 1, 0, 0)", x.copy(0, 0, 1, 0, 0), -13);
        due("taken(0, 1)", x.taken(0, 1), -13);
        due("sheet(0, 0, -1)", x.sheet(0, 0, -1), -14);
    }

    private static void theFirstRefusalThatIsNamed() {
        says(3, "Refusals, the first that the call's words name; they change nothing");
        refusesOn(Bounds::fullCoach, "passenger(6, 0), BAD ahead of FULL", x -> x.passenger(6, 0), BAD);
        refusesOn(Bounds::fullCoach, "passenger(0, 10), BAD ahead of FULL", x -> x.passenger(0, 10), BAD);
        refusesOn(Bounds::fullCoach, "passenger(0, 0)", x -> x.passenger(0, 0), FULL);
        refuses("sit(4, 9), BAD ahead of STATE", x -> x.sit(4, 9), BAD);
        refuses("sit(-1, 9), BAD ahead of STATE", x -> x.sit(-1, 9), BAD);
    }

    // ---- SEATS

    private static void seats() {
        says(4, "SEATS 0 .. 23");
        BackSeat x = standing(2);
        due("sit(0, 0)", x.sit(0, 0), NONE);
        due("sit(0, 23)", x.sit(0, 23), 0);
        due("sit(1, 22)", x.sit(1, 22), NONE);
        refuses("sit(0, 24)", y -> y.sit(0, 24), BAD);
        refuses("sit(0, -2)", y -> y.sit(0, -2), BAD);
        refuses("sit(3, 24)", y -> y.sit(3, 24), BAD);
        refuses("sit(0, MAX)", y -> y.sit(0, MAX), BAD);
        refuses("sit(0, MIN)", y -> y.sit(0, MIN), BAD);
    }

    private static void rowsAndColumns() {
        says(5, "SEAT by 4 (cut) is the ROW (0 in front, 5 the REAR), SEAT modulo 4 the COLUMN.");
        BackSeat x = rule(coach(one(CHILD, 0, NONE)), "sounds row;turns column;joys 0;");
        for (int row = 0; row <= 5; row++) {
            for (int column = 0; column <= 3; column++) {
                x.sit(0, 4 * row + column);
                due("ROW of SEAT " + (4 * row + column), x.told(0, 6), row);
                due("COLUMN of SEAT " + (4 * row + column), x.told(0, 7), column);
            }
        }
    }

    private static void theRearIsRow5() {
        says(5, "(0 in front, 5 the REAR)");
        due("NOISE of a LOUD on 19", coach(one(LOUD, 7, 19)).told(0, 6), 18);
        due("NOISE of a LOUD on 20", coach(one(LOUD, 7, 20)).told(0, 6), 27);
        due("NOISE of a LOUD on 0", coach(one(LOUD, 7, 0)).told(0, 6), 10);
    }

    private static void beside() {
        says(5, "BESIDE each other are, of one ROW, COLUMNS 0 and 1, 2 and 3, in the REAR 1 and 2, too.");
        for (int a = 0; a < 24; a++) {
            for (int b = 0; b < 24; b++) {
                if (a != b) {
                    BackSeat x = coach(one(CHILD, 0, a), one(TEACHER, 0, b));
                    int due = areBeside(a, b) ? 1 : 0;
                    due("on " + a + " and " + b + ", told(0, 8)", x.told(0, 8), due);
                    due("on " + a + " and " + b + ", told(1, 8)", x.told(1, 8), due);
                    due("on " + a + " and " + b + ", told(0, 9)", x.told(0, 9), due);
                }
            }
        }
    }

    private static boolean areBeside(int a, int b) {
        int[][] pairs = {{0, 1}, {2, 3}, {4, 5}, {6, 7}, {8, 9}, {10, 11}, {12, 13}, {14, 15}, {16, 17}, {18, 19},
            {20, 21}, {22, 23}, {21, 22}};
        for (int[] pair : pairs) {
            if (pair[0] == a && pair[1] == b || pair[0] == b && pair[1] == a) {
                return true;
            }
        }
        return false;
    }

    private static void besideInTheRear() {
        says(5, "in the REAR 1 and 2, too");
        BackSeat x = coach(one(CHILD, 0, 20), one(CHILD, 0, 21), one(CHILD, 0, 22), one(CHILD, 0, 23));
        due("BESIDE 20", x.told(0, 8), 1);
        due("BESIDE 21", x.told(1, 8), 2);
        due("BESIDE 22", x.told(2, 8), 2);
        due("BESIDE 23", x.told(3, 8), 1);
        BackSeat y = coach(one(CHILD, 0, 17), one(CHILD, 0, 18), one(CHILD, 0, 16), one(CHILD, 0, 19));
        due("BESIDE 17", y.told(0, 8), 1);
        due("BESIDE 18", y.told(1, 8), 1);
    }

    // ---- promise 2

    private static void theMile() {
        says(2, "THE MILE (0 .. 99; 0 at first)");
        BackSeat x = new BackSeat();
        due("told(0, 0)", x.told(0, 0), 0);
        due("set(0, 0, 99)", x.set(0, 0, 99), 0);
        due("told(0, 0) then", x.told(0, 0), 99);
        due("set(0, 0, 0)", x.set(0, 0, 0), 99);
        due("told(0, 0) in the end", x.told(0, 0), 0);
        refuses("set(0, 0, 100)", y -> y.set(0, 0, 100), BAD);
        refuses("set(0, 0, -1)", y -> y.set(0, 0, -1), BAD);
        refuses("set(0, 0, MAX)", y -> y.set(0, 0, MAX), BAD);
        refuses("set(0, 0, MIN)", y -> y.set(0, 0, MIN), BAD);
    }

    private static void limit() {
        says(2, "LIMIT (0 .. 999; 50 at first)");
        BackSeat x = new BackSeat();
        due("told(0, 1)", x.told(0, 1), 50);
        due("set(1, 0, 999)", x.set(1, 0, 999), 50);
        due("told(0, 1) then", x.told(0, 1), 999);
        due("set(1, 0, 0)", x.set(1, 0, 0), 999);
        due("told(0, 1) in the end", x.told(0, 1), 0);
        refuses("set(1, 0, 1000)", y -> y.set(1, 0, 1000), BAD);
        refuses("set(1, 0, -1)", y -> y.set(1, 0, -1), BAD);
        refuses("set(1, 0, MAX)", y -> y.set(1, 0, MAX), BAD);
        refuses("set(1, 0, MIN)", y -> y.set(1, 0, MIN), BAD);
    }

    private static void ofDoesNotMatterForTheMile() {
        says(2, "THE MILE (what 0; of does not matter)");
        BackSeat x = new BackSeat();
        due("set(0, 0, 1) with no PASSENGERS", x.set(0, 0, 1), 0);
        due("set(0, -1, 2)", x.set(0, -1, 2), 1);
        due("set(0, 8, 3)", x.set(0, 8, 3), 2);
        due("set(0, MIN, 4)", x.set(0, MIN, 4), 3);
        due("set(0, MAX, 5)", x.set(0, MAX, 5), 4);
        due("told(0, 0)", x.told(0, 0), 5);
        due("told(0, 1)", x.told(0, 1), 50);
    }

    private static void ofDoesNotMatterForLimit() {
        says(2, "LIMIT (1; nor)");
        BackSeat x = new BackSeat();
        due("set(1, 0, 1) with no PASSENGERS", x.set(1, 0, 1), 50);
        due("set(1, -1, 2)", x.set(1, -1, 2), 1);
        due("set(1, 8, 3)", x.set(1, 8, 3), 2);
        due("set(1, MIN, 4)", x.set(1, MIN, 4), 3);
        due("set(1, MAX, 5)", x.set(1, MAX, 5), 4);
        due("told(0, 1)", x.told(0, 1), 5);
        due("told(0, 0)", x.told(0, 0), 0);
    }

    private static void aNumber() {
        says(2, "a NUMBER (0 .. 9)");
        BackSeat x = coach(one(CHILD, 4, NONE), one(CHILD, 5, NONE));
        due("set(2, 0, 9)", x.set(2, 0, 9), 4);
        due("set(2, 0, 0)", x.set(2, 0, 0), 9);
        due("told(0, 2)", x.told(0, 2), 0);
        due("told(1, 2)", x.told(1, 2), 5);
        refuses("set(2, 0, 10)", y -> y.set(2, 0, 10), BAD);
        refuses("set(2, 0, -1)", y -> y.set(2, 0, -1), BAD);
        refuses("set(2, 3, MAX)", y -> y.set(2, 3, MAX), BAD);
        refuses("set(2, 3, MIN)", y -> y.set(2, 3, MIN), BAD);
    }

    private static void numberOfAPassenger() {
        says(2, "NUMBER (2)");
        BackSeat x = someCoach();
        due("set(2, 3, 8), the last PASSENGER", x.set(2, 3, 8), 4);
        refuses("set(2, 4, 1), no such PASSENGER", y -> y.set(2, 4, 1), BAD);
        refuses("set(2, -1, 1)", y -> y.set(2, -1, 1), BAD);
        refuses("set(2, 8, 1)", y -> y.set(2, 8, 1), BAD);
        refuses("set(2, MAX, 1)", y -> y.set(2, MAX, 1), BAD);
        refuses("set(2, MIN, 1)", y -> y.set(2, MIN, 1), BAD);
        refusesOn(BackSeat::new, "set(2, 0, 1) with no PASSENGERS", y -> y.set(2, 0, 1), BAD);
    }

    private static void aFriend() {
        says(2, "a FRIEND (another one, or NONE, as one comes)");
        BackSeat x = standing(3);
        due("told(0, 3), as one comes", x.told(0, 3), NONE);
        due("set(3, 0, 2), the last one", x.set(3, 0, 2), NONE);
        due("set(3, 0, 1)", x.set(3, 0, 1), 2);
        due("set(3, 0, -1)", x.set(3, 0, -1), 1);
        due("told(0, 3)", x.told(0, 3), NONE);
        due("set(3, 2, 0), the first one", x.set(3, 2, 0), NONE);
        due("told(2, 3)", x.told(2, 3), 0);
        refuses("set(3, 0, 0), not another one", y -> y.set(3, 0, 0), BAD);
        refuses("set(3, 3, 3), not another one", y -> y.set(3, 3, 3), BAD);
        refuses("set(3, 0, 4), none such", y -> y.set(3, 0, 4), BAD);
        refuses("set(3, 0, -2)", y -> y.set(3, 0, -2), BAD);
        refuses("set(3, 0, MAX)", y -> y.set(3, 0, MAX), BAD);
        refuses("set(3, 0, MIN)", y -> y.set(3, 0, MIN), BAD);
    }

    private static void friendOfAPassenger() {
        says(2, "FRIEND (3; NONE) of a PASSENGER becomes v: what it was. BAD.");
        BackSeat x = someCoach();
        due("set(3, 3, 0), the last PASSENGER", x.set(3, 3, 0), NONE);
        due("set(3, 0, 1), the same again", x.set(3, 0, 1), 1);
        due("told(1, 3), FRIENDS are one's own", x.told(1, 3), 2);
        refuses("set(3, 4, 0), no such PASSENGER", y -> y.set(3, 4, 0), BAD);
        refuses("set(3, 4, -1)", y -> y.set(3, 4, -1), BAD);
        refuses("set(3, -1, 0)", y -> y.set(3, -1, 0), BAD);
        refuses("set(3, -1, -1)", y -> y.set(3, -1, -1), BAD);
        refuses("set(3, MAX, 0)", y -> y.set(3, MAX, 0), BAD);
        refuses("set(3, MIN, 0)", y -> y.set(3, MIN, 0), BAD);
    }

    private static void setBecomesWhatItIs() {
        says(2, "of a PASSENGER becomes v: what it was. BAD.");
        refuses("set(4, 0, 0)", y -> y.set(4, 0, 0), BAD);
        refuses("set(-1, 0, 0)", y -> y.set(-1, 0, 0), BAD);
        refuses("set(5, 0, 10)", y -> y.set(5, 0, 10), BAD);
        refuses("set(MAX, 0, 0)", y -> y.set(MAX, 0, 0), BAD);
        refuses("set(MIN, 0, 0)", y -> y.set(MIN, 0, 0), BAD);
    }

    // ---- promise 3

    private static void eightPassengers() {
        says(3, "PASSENGERS (8 at most, numbered from 0)");
        BackSeat x = new BackSeat();
        for (int i = 0; i < 8; i++) {
            due("passenger " + i, x.passenger(i % 6, 9 - i), i);
        }
        due("passenger 8", x.passenger(0, 0), FULL);
        due("count(0)", x.count(0), 8);
        due("told(7, 2)", x.told(7, 2), 2);
        due("told(8, 2)", x.told(8, 2), BAD);
        refusesOn(Bounds::fullCoach, "the ninth", y -> y.passenger(TOM, 9), FULL);
    }

    private static void kinds() {
        says(3, "have a KIND: 0 CHILD, 1 LOUD under CHILD, 2 SICKLY under CHILD, 3 TOM under LOUD, 4 BABY under SICKLY, "
            + "5 TEACHER under CHILD");
        BackSeat x = new BackSeat();
        due("passenger(0, 0)", x.passenger(0, 0), 0);
        due("passenger(5, 0)", x.passenger(5, 0), 1);
        due("told(0, 4)", x.told(0, 4), 0);
        due("told(1, 4)", x.told(1, 4), 5);
        refuses("passenger(6, 0)", y -> y.passenger(6, 0), BAD);
        refuses("passenger(-1, 0)", y -> y.passenger(-1, 0), BAD);
        refuses("passenger(MAX, 0)", y -> y.passenger(MAX, 0), BAD);
        refuses("passenger(MIN, 0)", y -> y.passenger(MIN, 0), BAD);
    }

    private static void passengersNumber() {
        says(3, "A PASSENGER: the number. BAD; FULL.");
        BackSeat x = new BackSeat();
        due("passenger(0, 0)", x.passenger(0, 0), 0);
        due("passenger(0, 9)", x.passenger(0, 9), 1);
        due("told(0, 2)", x.told(0, 2), 0);
        due("told(1, 2)", x.told(1, 2), 9);
        refuses("passenger(0, 10)", y -> y.passenger(0, 10), BAD);
        refuses("passenger(0, -1)", y -> y.passenger(0, -1), BAD);
        refuses("passenger(5, MAX)", y -> y.passenger(5, MAX), BAD);
        refuses("passenger(5, MIN)", y -> y.passenger(5, MIN), BAD);
    }

    // ---- promise 4

    private static void asOneComes() {
        says(4, "sit on a SEAT, or stand (NONE, as one comes).");
        BackSeat x = standing(1);
        due("told(0, 5)", x.told(0, 5), NONE);
        due("count(1)", x.count(1), 0);
        due("sit(0, 5)", x.sit(0, 5), NONE);
        due("told(0, 5) then", x.told(0, 5), 5);
        due("count(1) then", x.count(1), 1);
    }

    private static void sittingDown() {
        says(4, "A PASSENGER truly sits on a SEAT (NONE: stands up): where one sat.");
        BackSeat x = standing(2);
        due("sit(0, 23)", x.sit(0, 23), NONE);
        due("sit(0, 22)", x.sit(0, 22), 23);
        due("who(23), left", x.who(23), NONE);
        due("who(22)", x.who(22), 0);
        due("sit(0, 22), one's own", x.sit(0, 22), 22);
        due("who(22) still", x.who(22), 0);
        due("sit(0, -1)", x.sit(0, -1), 22);
        due("who(22), left", x.who(22), NONE);
        due("told(0, 5)", x.told(0, 5), NONE);
        due("sit(0, -1), who stands", x.sit(0, -1), NONE);
        due("sit(1, 22), free again", x.sit(1, 22), NONE);
    }

    private static void sittingOnAnother() {
        says(4, "BAD; STATE: another one sits there.");
        refuses("sit(0, 9), another one sits there", y -> y.sit(0, 9), STATE);
        refuses("sit(3, 9), one who stood", y -> y.sit(3, 9), STATE);
        refuses("sit(1, 8)", y -> y.sit(1, 8), STATE);
        BackSeat x = someCoach();
        due("sit(1, 9), one's own", x.sit(1, 9), 9);
        due("sit(3, 10), beside", x.sit(3, 10), NONE);
        due("sit(3, -1), others stand, too", x.sit(3, -1), 10);
    }

    private static void sittingOfAPassenger() {
        says(4, "A PASSENGER truly sits on a SEAT");
        BackSeat x = someCoach();
        due("sit(3, 1), the last PASSENGER", x.sit(3, 1), NONE);
        refuses("sit(4, 1), no such PASSENGER", y -> y.sit(4, 1), BAD);
        refuses("sit(4, -1)", y -> y.sit(4, -1), BAD);
        refuses("sit(-1, 1)", y -> y.sit(-1, 1), BAD);
        refuses("sit(8, 1)", y -> y.sit(8, 1), BAD);
        refuses("sit(MAX, 1)", y -> y.sit(MAX, 1), BAD);
        refuses("sit(MIN, 1)", y -> y.sit(MIN, 1), BAD);
    }

    // ---- promise 5

    private static void toldAsOfSet() {
        says(5, "What 0 .. 3 as of set()");
        BackSeat x = someCoach();
        due("told(0, 0)", x.told(0, 0), 12);
        due("told(0, 1)", x.told(0, 1), 20);
        due("told(0, 2)", x.told(0, 2), 3);
        due("told(0, 3)", x.told(0, 3), 1);
        due("told(MIN, 0), of does not matter", x.told(MIN, 0), 12);
        due("told(MAX, 1), nor", x.told(MAX, 1), 20);
        due("told(-1, 0)", x.told(-1, 0), 12);
        due("told(4, 1)", x.told(4, 1), 20);
        refuses("told(4, 2), no such PASSENGER", y -> y.told(4, 2), BAD);
        refuses("told(4, 3)", y -> y.told(4, 3), BAD);
        refuses("told(-1, 2)", y -> y.told(-1, 2), BAD);
        refuses("told(-1, 3)", y -> y.told(-1, 3), BAD);
    }

    private static void toldOfOne() {
        says(5, "4 KIND, 5 the SEAT, 6 NOISE, 7 QUEASY in THE MILE, 8 how many sit BESIDE one, 9 whether WATCHED (1, 0).");
        BackSeat x = coach(one(SICKLY, 1, 21), one(CHILD, 0, 20), one(TEACHER, 0, 22));
        rule(x, "sounds mile*2+1;turns mile;joys 0;");
        x.set(0, 0, 9);
        long[] due = {SICKLY, 21, 9, 23, 2, 1};
        for (int what = 4; what <= 9; what++) {
            due("told(0, " + what + ")", x.told(0, what), due[what - 4]);
        }
        due("told(1, 9), not WATCHED", x.told(1, 9), 0);
        due("told(2, 9), a TEACHER is not BESIDE itself", x.told(2, 9), 0);
    }

    private static void toldWhatNoMore() {
        says(5, "9 whether WATCHED (1, 0). BAD.");
        refuses("told(0, 10)", y -> y.told(0, 10), BAD);
        refuses("told(0, -1)", y -> y.told(0, -1), BAD);
        refuses("told(0, MAX)", y -> y.told(0, MAX), BAD);
        refuses("told(0, MIN)", y -> y.told(0, MIN), BAD);
        for (int what = 2; what <= 9; what++) {
            int asked = what;
            refuses("told(4, " + what + "), no such PASSENGER", y -> y.told(4, asked), BAD);
            refuses("told(-1, " + what + ")", y -> y.told(-1, asked), BAD);
            refuses("told(MAX, " + what + ")", y -> y.told(MAX, asked), BAD);
        }
        BackSeat x = someCoach();
        due("told(3, 4), the last PASSENGER", x.told(3, 4), BABY);
    }

    // ---- promise 6

    private static void whoSits() {
        says(6, "Who sits on a SEAT (NONE). BAD.");
        BackSeat x = coach(one(CHILD, 0, 0), one(CHILD, 0, 23));
        due("who(0)", x.who(0), 0);
        due("who(23)", x.who(23), 1);
        due("who(1)", x.who(1), NONE);
        due("who(22)", x.who(22), NONE);
        refuses("who(24)", y -> y.who(24), BAD);
        refuses("who(-1)", y -> y.who(-1), BAD);
        refuses("who(MAX)", y -> y.who(MAX), BAD);
        refuses("who(MIN)", y -> y.who(MIN), BAD);
    }

    private static void whoInAnEmptyAndAFullCoach() {
        says(6, "Who sits on a SEAT (NONE).");
        BackSeat x = standing(8);
        for (int seat = 0; seat < 24; seat++) {
            due("who(" + seat + ") of an empty coach", x.who(seat), NONE);
        }
        for (int one = 0; one < 8; one++) {
            x.sit(one, 23 - 3 * one);
        }
        for (int seat = 0; seat < 24; seat++) {
            due("who(" + seat + ")", x.who(seat), seat >= 2 && seat % 3 == 2 ? (23 - seat) / 3 : NONE);
        }
    }

    // ---- the life of an object

    private static void fiveHundredAndTwelveCalls() {
        says(1, "No PASSENGERS.");
        BackSeat x = new BackSeat();
        x.passenger(LOUD, 5);
        for (int call = 2; call <= 512; call++) {
            int seat = call % 24;
            due("call " + call, x.sit(0, seat), call == 2 ? NONE : (call - 1) % 24);
        }
    }
}
