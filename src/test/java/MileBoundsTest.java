/** The bounds of promises 10, 11, 16 and 17: DIN and JOY, the MILES, FRONT, STOP. */
public final class MileBoundsTest extends Bounds {
    public static void main(String[] args) {
        runAll(MileBoundsTest.class);
    }

    /** CHILDREN on the seats, QUEASY as turns tells. */
    private static BackSeat turning(String turns, int limit, int... seats) {
        BackSeat x = new BackSeat();
        for (int i = 0; i < seats.length; i++) {
            x.passenger(CHILD, i);
            x.sit(i, seats[i]);
        }
        x.set(1, 0, limit);
        return rule(x, "sounds 0;turns " + turns + ";joys 0;");
    }

    // ---- promise 10

    private static void allWhats() {
        says(10, "DIN (what 0), JOY (1), how many sit with nobody BESIDE them (2). -100000: what.");
        BackSeat x = coach(one(CHILD, 0, 8), one(CHILD, 0, 9), one(CHILD, 0, 20));
        due("all(0)", x.all(0), 7 + 7 + 10);
        due("all(1)", x.all(1), 2);
        due("all(2)", x.all(2), 1);
        refuses("all(3)", y -> y.all(3), REFUSED);
        refuses("all(-1)", y -> y.all(-1), REFUSED);
        refuses("all(MAX)", y -> y.all(MAX), REFUSED);
        refuses("all(MIN)", y -> y.all(MIN), REFUSED);
    }

    private static void dinAndJoyOfNobody() {
        says(10, "DIN: NOISE of all in THE MILE, together.");
        BackSeat x = new BackSeat();
        due("all(0) of no PASSENGERS", x.all(0), 0);
        due("all(1) of no PASSENGERS", x.all(1), 0);
        due("all(2) of no PASSENGERS", x.all(2), 0);
        BackSeat y = standing(8);
        due("all(0) of 8 who stand", y.all(0), 0);
        due("all(1) of 8 who stand", y.all(1), 0);
        due("all(2) of 8 who stand", y.all(2), 0);
        BackSeat most = new BackSeat();
        for (int i = 0; i < 8; i++) {
            most.passenger(TOM, 9);
            most.sit(i, i < 4 ? 20 + i : i);
        }
        rule(most, "sounds 99;turns 0;joys 99;");
        due("all(0), the most", most.all(0), 4 * 212 + 4 * 203);
        due("all(1)", most.all(1), 4 * 208 + 4 * 198);
    }

    private static void dinInTheMile() {
        says(10, "DIN: NOISE of all in THE MILE, together. JOY: what all are GLAD in THE MILE, together.");
        BackSeat x = rule(coach(one(CHILD, 0, 8), one(CHILD, 0, 20)), "sounds mile;turns 0;joys 0-mile;");
        due("all(0) in MILE 0", x.all(0), 0);
        x.set(0, 0, 99);
        due("all(0) in MILE 99", x.all(0), 198);
        due("all(1) in MILE 99", x.all(1), -198);
        x.set(0, 0, 1);
        due("all(0) in MILE 1", x.all(0), 2);
        due("all(1) in MILE 1", x.all(1), -2);
    }

    private static void nobodyBeside() {
        says(10, "how many sit with nobody BESIDE them (2)");
        due("1 alone", coach(one(CHILD, 0, 0)).all(2), 1);
        due("0 and 1", coach(one(CHILD, 0, 0), one(CHILD, 0, 1)).all(2), 0);
        due("1 and 2 of ROW 0", coach(one(CHILD, 0, 1), one(CHILD, 0, 2)).all(2), 2);
        due("1 and 2 of the REAR", coach(one(CHILD, 0, 21), one(CHILD, 0, 22)).all(2), 0);
        due("0 and 3 of the REAR", coach(one(CHILD, 0, 20), one(CHILD, 0, 23)).all(2), 2);
        due("one sits, one stands", coach(one(CHILD, 0, 8), one(CHILD, 0, NONE)).all(2), 1);
        BackSeat x = standing(8);
        for (int i = 0; i < 8; i++) {
            x.sit(i, 2 * i + 1);
        }
        due("8 alone", x.all(2), 8);
    }

    // ---- promise 11

    private static void howManyMiles() {
        says(11, "n MILES (0 .. 60) from THE MILE on, in thought (also past 99): each has 0 at first;");
        BackSeat x = turning("1", 0, 8);
        due("ride(0, 0)", x.ride(0, 0), 0);
        due("ride(1, 0)", x.ride(1, 0), 1);
        due("ride(59, 0)", x.ride(59, 0), 59);
        due("ride(60, 0)", x.ride(60, 0), 60);
        refuses("ride(61, 0)", y -> y.ride(61, 0), BAD);
        refuses("ride(-1, 0)", y -> y.ride(-1, 0), BAD);
        refuses("ride(61, 10)", y -> y.ride(61, 10), BAD);
        refuses("ride(MAX, 0)", y -> y.ride(MAX, 0), BAD);
        refuses("ride(MIN, 0)", y -> y.ride(MIN, 0), BAD);
    }

    private static void pastMile99() {
        says(11, "from THE MILE on, in thought (also past 99)");
        BackSeat x = turning("(99 < mile) * 9", 0, 8);
        due("40 to 99", mile(x, 40).ride(60, 0), 0);
        due("41 to 100", mile(x, 41).ride(60, 0), 1);
        due("41 to 100, when", x.ride(60, 10), 59);
        due("99", mile(x, 99).ride(1, 0), 0);
        due("99 to 158", x.ride(60, 0), 59);
        BackSeat y = turning("(mile = 158) * 9", 0, 8);
        due("158 is the last", mile(y, 99).ride(60, 10), 59);
        due("one MILE less", y.ride(59, 10), NONE);
        due("told(0, 0) stays", y.told(0, 0), 99);
        BackSeat z = turning("mile = 20", 0, 8);
        due("20 is the first", mile(z, 20).ride(1, 0), 1);
        due("behind 20", mile(z, 21).ride(60, 0), 0);
    }

    private static BackSeat mile(BackSeat x, int mile) {
        x.set(0, 0, mile);
        return x;
    }

    private static void eachHasZeroAtFirst() {
        says(11, "each has 0 at first; MILE by MILE, of each by numbers, QUEASY in it is added to what one has");
        BackSeat x = turning("10", 50, 8, 10);
        for (int again = 0; again < 3; again++) {
            due("5 MILES", x.ride(5, 0), 0);
            due("6 MILES", x.ride(6, 0), 2);
        }
        due("when of 0", x.ride(6, 10), 5);
        due("when of 1", x.ride(6, 11), 5);
    }

    private static void moreThanLimit() {
        says(11, "if that is more than LIMIT then, one is SICK in that MILE");
        due("50 of 50", turning("10", 50, 8).ride(5, 0), 0);
        due("50 of 49", turning("10", 49, 8).ride(5, 0), 1);
        due("51 of 50", turning("17", 50, 8).ride(3, 0), 1);
        due("0 of 0", turning("0", 0, 8).ride(60, 0), 0);
        due("1 of 0", turning("1", 0, 8).ride(60, 0), 60);
        due("1 of 1", turning("1", 1, 8).ride(60, 0), 30);
        due("990 of 990", turning("99", 990, 8).ride(10, 0), 0);
        due("990 of 989", turning("99", 989, 8).ride(10, 0), 1);
        due("990 of 999", turning("99", 999, 8).ride(10, 0), 0);
        due("1089 of 999", turning("99", 999, 8).ride(11, 10), 10);
    }

    private static void hasZeroAgain() {
        says(11, "one is SICK in that MILE, and has 0 again: how often all are SICK, together;");
        BackSeat x = turning("30", 50, 8);
        due("60 of 50: what is more is not kept", x.ride(3, 0), 1);
        due("twice", x.ride(4, 0), 2);
        due("60 MILES", x.ride(60, 0), 30);
        BackSeat y = turning("30", 50, 8, 12, 16);
        due("three, together", y.ride(4, 0), 6);
        due("how often one", y.ride(4, 22), 2);
    }

    private static void whoIsFirst() {
        says(11, "who is first (1; of one MILE the least number; NONE)");
        BackSeat x = turning("row", 4, 8, 20, 21, 4);
        due("ride(0, 1)", x.ride(0, 1), NONE);
        due("one in ROW 5, ahead of others", x.ride(1, 1), 1);
        due("of one MILE the least number", x.ride(60, 1), 1);
        BackSeat y = turning("row", 50, 0, 0, 8);
        due("one who is not SICK is not first", y.ride(60, 1), 2);
        due("not within 25 MILES", y.ride(25, 1), NONE);
        due("within 26", y.ride(26, 1), 2);
        BackSeat z = turning("(mile = 0) * (column = 0) * 9 + (0 < mile) * (column = 2) * 9", 0, 10, 8);
        due("who is SICK more often", z.ride(9, 20), 8);
        due("is not first", z.ride(9, 1), 1);
        BackSeat last = turning("row = 5", 0, 0, 1, 2, 3, 4, 5, 6, 20);
        due("the last of 8", last.ride(1, 1), 7);
    }

    private static void whenOneIsFirst() {
        says(11, "in which of them (from 0) one is first; NONE.");
        BackSeat x = turning("row", 4, 20, 16, 0);
        due("in the first MILE", x.ride(60, 10), 0);
        due("in the second", x.ride(60, 11), 1);
        due("never", x.ride(60, 12), NONE);
        due("not yet", x.ride(1, 11), NONE);
        due("the first time counts", x.ride(60, 11), 1);
        x.set(0, 0, 30);
        due("counted from THE MILE on", x.ride(60, 11), 1);
        BackSeat y = turning("mile = 59", 0, 8);
        due("in the last MILE", y.ride(60, 10), 59);
        due("one MILE less", y.ride(59, 10), NONE);
    }

    private static void whatsOfARide() {
        says(11, "when one is first (what less 10: 10 ..), how often one is (20 ..). BAD; NONE.");
        BackSeat x = fullCoach();
        due("ride(5, 17), the last of 8", x.ride(5, 17), NONE);
        due("ride(5, 27)", x.ride(5, 27), 0);
        due("ride(5, 10)", x.ride(5, 10), 2);
        due("ride(5, 20)", x.ride(5, 20), 1);
        for (int what : new int[] {-1, 2, 9, 18, 19, 28, 29, 30, 37, MIN, MAX}) {
            refusesOn(Bounds::fullCoach, "ride(5, " + what + ")", y -> y.ride(5, what), BAD);
        }
        for (int what : new int[] {14, 24, 30, 33}) {
            refuses("ride(5, " + what + ") of 4 PASSENGERS", y -> y.ride(5, what), BAD);
        }
        refusesOn(BackSeat::new, "ride(5, 10) of none", y -> y.ride(5, 10), BAD);
        refusesOn(BackSeat::new, "ride(5, 20) of none", y -> y.ride(5, 20), BAD);
        refuses("ride(0, 2), also of 0 MILES", y -> y.ride(0, 2), BAD);
    }

    private static void aRideOfNobody() {
        says(11, "n MILES: how often all are SICK (what 0), who is first (1; of one MILE the least number; NONE)");
        BackSeat x = new BackSeat();
        due("ride(60, 0)", x.ride(60, 0), 0);
        due("ride(60, 1)", x.ride(60, 1), NONE);
        BackSeat y = standing(8);
        y.set(1, 0, 0);
        due("who stand: ride(60, 0)", y.ride(60, 0), 0);
        due("who stand: ride(60, 1)", y.ride(60, 1), NONE);
        due("who stand: ride(60, 17)", y.ride(60, 17), NONE);
        due("who stand: ride(60, 27)", y.ride(60, 27), 0);
    }

    private static void aRideIsInThought() {
        says(11, "n MILES (0 .. 60) from THE MILE on, in thought");
        asks("ride(60, 0)", y -> y.ride(60, 0), 40);
        asks("ride(60, 1)", y -> y.ride(60, 1), 0);
        asks("ride(60, 13)", y -> y.ride(60, 13), NONE);
    }

    // ---- promise 16

    private static void front() {
        says(16, "FRONT (what 0; NONE), how often all are SICK then (1; as now, if none). BAD.");
        BackSeat x = turning("row", 0, 20);
        due("front(10, 0)", x.front(10, 0), 0);
        due("front(10, 1)", x.front(10, 1), 0);
        refuses("front(10, 2)", y -> y.front(10, 2), BAD);
        refuses("front(10, -1)", y -> y.front(10, -1), BAD);
        refuses("front(10, MAX)", y -> y.front(10, MAX), BAD);
        refuses("front(10, MIN)", y -> y.front(10, MIN), BAD);
    }

    private static void frontMiles() {
        says(16, "FRONT (n MILES)");
        BackSeat x = turning("row", 0, 20);
        due("front(0, 0)", x.front(0, 0), NONE);
        due("front(0, 1)", x.front(0, 1), 0);
        due("front(1, 0)", x.front(1, 0), 0);
        due("front(60, 0)", x.front(60, 0), 0);
        due("front(60, 1)", x.front(60, 1), 0);
        refuses("front(61, 0)", y -> y.front(61, 0), BAD);
        refuses("front(-1, 0)", y -> y.front(-1, 0), BAD);
        refuses("front(61, 1)", y -> y.front(61, 1), BAD);
        refuses("front(MAX, 0)", y -> y.front(MAX, 0), BAD);
        refuses("front(MIN, 0)", y -> y.front(MIN, 0), BAD);
    }

    private static void frontOnTheFirstFreeSeat() {
        says(16, "by whose sitting on a free SEAT of ROW 0 (the first free one)");
        String turns = "9 * (row = 0) * (column = 0) + 9 * (row = 1)";
        due("SEAT 0 is as bad", turning(turns, 0, 4).front(5, 0), NONE);
        due("SEAT 0 is as bad: as now", turning(turns, 0, 4).front(5, 1), 5);
        due("0 is taken: SEAT 1", turning(turns, 0, 4, 0).front(5, 1), 5);
        BackSeat x = turning("9 * (row = 5) + 9 * (row = 0) * (column < 3)", 0, 20, 0, 1, 2);
        due("SEAT 3 is the last", x.front(5, 0), 0);
        due("SEAT 3 is the last: how often", x.front(5, 1), 15);
        x.sit(3, 3);
        due("SEAT 2 is the first free one", x.front(5, 0), NONE);
        BackSeat full = turning("9 * (row = 5) + 9 * (row = 0) * (column < 3)", 0, 20, 0, 1, 2, 3);
        due("ROW 0 is full", full.front(5, 0), NONE);
        due("ROW 0 is full: as now", full.front(5, 1), 20);
    }

    private static void frontFromRow0() {
        says(16, "the PASSENGER who sits");
        BackSeat x = turning("9 * (row = 0) * (column = 0)", 0, 0);
        due("from SEAT 0 to 1", x.front(5, 0), 0);
        due("from SEAT 0 to 1, then", x.front(5, 1), 0);
        BackSeat y = turning("column", 0, 2);
        due("from SEAT 2 to 0", y.front(5, 0), 0);
        BackSeat z = turning("row", 0, NONE, 20);
        due("one who stands is none", z.front(5, 0), 1);
        due("one who stands would be SICK", turning("9", 0, NONE).front(5, 0), NONE);
        due("all stand", turning("9", 0, NONE, NONE).front(5, 1), 0);
        due("nobody", turning("9", 0).front(5, 0), NONE);
        due("nobody, how often", turning("9", 0).front(5, 1), 0);
    }

    private static void frontLessOften() {
        says(16, "all would be SICK least often, if less often than now; of like ones the first; NONE.");
        due("as often", turning("9", 0, 20).front(5, 0), NONE);
        due("as often: how often", turning("9", 0, 20).front(5, 1), 5);
        due("more often", turning("9 * (row = 0)", 0, 20).front(5, 0), NONE);
        due("of like ones the first", turning("row", 0, 16, 20, 12).front(5, 0), 0);
        due("the least", turning("row", 9, 16, 20, 12).front(4, 0), 1);
        due("the least: how often", turning("row", 9, 16, 20, 12).front(4, 1), 2);
        BackSeat x = turning("9 * beside", 0, 16, 20, 21, 22);
        due("all count: one leaves the middle", x.front(5, 0), 2);
        due("all count: how often", x.front(5, 1), 0);
    }

    private static void frontIsInThought() {
        says(16, "would be SICK");
        asks("front(60, 0)", y -> y.front(60, 0), NONE);
        BackSeat x = turning("row", 0, 20);
        x.front(60, 0);
        due("told(0, 5)", x.told(0, 5), 20);
        due("who(0)", x.who(0), NONE);
    }

    // ---- promise 17

    private static void stop() {
        says(17, "STOP (what 0; NONE), how often all are SICK then (1; as without, if none). BAD.");
        BackSeat x = turning("5", 50, 8);
        due("stop(11, 0)", x.stop(11, 0), 0);
        due("stop(11, 1)", x.stop(11, 1), 0);
        refuses("stop(11, 2)", y -> y.stop(11, 2), BAD);
        refuses("stop(11, -1)", y -> y.stop(11, -1), BAD);
        refuses("stop(11, MAX)", y -> y.stop(11, MAX), BAD);
        refuses("stop(11, MIN)", y -> y.stop(11, MIN), BAD);
    }

    private static void stopMiles() {
        says(17, "STOP (n MILES): the MILE (0 .. n less 1)");
        BackSeat x = turning("5", 50, 8);
        due("stop(0, 0)", x.stop(0, 0), NONE);
        due("stop(0, 1)", x.stop(0, 1), 0);
        due("stop(60, 0)", x.stop(60, 0), 5);
        due("stop(60, 1)", x.stop(60, 1), 4);
        refuses("stop(61, 0)", y -> y.stop(61, 0), BAD);
        refuses("stop(-1, 0)", y -> y.stop(-1, 0), BAD);
        refuses("stop(61, 1)", y -> y.stop(61, 1), BAD);
        refuses("stop(MAX, 0)", y -> y.stop(MAX, 0), BAD);
        refuses("stop(MIN, 0)", y -> y.stop(MIN, 0), BAD);
    }

    private static void stopBehindAMile() {
        says(17, "behind which, did all get off once (what each has is 0 then)");
        BackSeat x = turning("30 * (mile = 8 or mile = 9)", 50, 8);
        due("behind 8 alone", x.stop(10, 0), 8);
        due("behind 8: how often", x.stop(10, 1), 0);
        due("9 MILES", x.stop(9, 0), NONE);
        x.set(0, 0, 5);
        due("counted from THE MILE on", x.stop(5, 0), 3);
        x.set(0, 0, 8);
        due("behind the first", x.stop(2, 0), 0);
        x.set(0, 0, 9);
        due("30 alone", x.stop(60, 0), NONE);
        BackSeat y = turning("30 * (mile = 158 or mile = 157)", 50, 8);
        y.set(0, 0, 99);
        due("past 99, behind the last but one", y.stop(60, 0), 58);
        due("past 99, one less", y.stop(59, 0), NONE);
        BackSeat z = turning("60", 50, 8);
        due("SICK ahead of getting off", z.stop(1, 0), NONE);
        due("SICK ahead of getting off: as without", z.stop(1, 1), 1);
        due("0 is not less than 0", turning("1", 0, 8).stop(5, 0), NONE);
        due("0 is not less than 0: as without", turning("1", 0, 8).stop(5, 1), 5);
    }

    private static void stopOnce() {
        says(17, "did all get off once");
        BackSeat x = turning("5", 50, 8);
        due("21 MILES", x.stop(21, 0), NONE);
        due("21 MILES: as without", x.stop(21, 1), 1);
        due("20 MILES", x.stop(20, 0), 9);
        BackSeat y = turning("5 * (column = 0) + 5 * (column = 1) * (4 < mile)", 50, 8, 9);
        due("all get off: 11 MILES", y.stop(11, 0), 0);
        due("all get off: 16 MILES", y.stop(16, 0), 5);
        due("all get off: 16 MILES, how often", y.stop(16, 1), 0);
    }

    private static void stopLessOften() {
        says(17, "all would be SICK least often, if less often; of like ones the first; NONE.");
        BackSeat x = turning("5", 50, 8);
        due("10 MILES: none is SICK", x.stop(10, 0), NONE);
        due("10 MILES: as without", x.stop(10, 1), 0);
        due("11 MILES: the first of ten", x.stop(11, 0), 0);
        BackSeat y = turning("5 * (column = 0) + 50 * (column = 2) * (mile = 4 or mile = 5)", 50, 8, 10);
        due("the least", y.stop(11, 0), 4);
        due("the least: how often", y.stop(11, 1), 0);
        due("nobody", turning("9", 0).stop(9, 0), NONE);
        due("nobody: how often", turning("9", 0).stop(9, 1), 0);
        due("who stand", turning("9", 0, NONE).stop(9, 0), NONE);
            }

    private static void stopIsInThought() {
        says(17, "all would be SICK least often");
        asks("stop(60, 0)", z -> z.stop(60, 0), 0);
        asks("stop(60, 1)", z -> z.stop(60, 1), 38);
    }
}
