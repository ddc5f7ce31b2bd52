/** The bounds of promises 12 to 15: BEST SEAT, CHANGE, WATCH, HAT. */
public final class BestBoundsTest extends Bounds {
    public static void main(String[] args) {
        runAll(BestBoundsTest.class);
    }

    /** CHILDREN on the seats, as loud as sounds tells. */
    private static BackSeat sounding(String sounds, int... seats) {
        BackSeat x = new BackSeat();
        for (int i = 0; i < seats.length; i++) {
            x.passenger(CHILD, i);
            x.sit(i, seats[i]);
        }
        return rule(x, "sounds " + sounds + ";turns 0;joys 0;");
    }

    /** CHILDREN on the seats, as glad as joys tells. */
    private static BackSeat joying(String joys, int... seats) {
        BackSeat x = new BackSeat();
        for (int i = 0; i < seats.length; i++) {
            x.passenger(CHILD, i);
            x.sit(i, seats[i]);
        }
        return rule(x, "sounds 0;turns 0;joys " + joys + ";");
    }

    // ---- promise 12

    private static void best() {
        says(12, "BEST SEAT (what 0), DIN then (1). BAD.");
        BackSeat x = someCoach();
        due("best(1, 0), a TOM", x.best(1, 0), 21);
        due("best(1, 1)", x.best(1, 1), 12);
        due("best(3, 0), the last PASSENGER, a BABY", x.best(3, 0), 0);
        due("best(3, 1)", x.best(3, 1), 12 + 29 + 10);
        refuses("best(4, 0), no such PASSENGER", y -> y.best(4, 0), BAD);
        refuses("best(-1, 0)", y -> y.best(-1, 0), BAD);
        refuses("best(MAX, 1)", y -> y.best(MAX, 1), BAD);
        refuses("best(MIN, 1)", y -> y.best(MIN, 1), BAD);
        refuses("best(0, 2)", y -> y.best(0, 2), BAD);
        refuses("best(0, -1)", y -> y.best(0, -1), BAD);
        refuses("best(0, MAX)", y -> y.best(0, MAX), BAD);
        refuses("best(0, MIN)", y -> y.best(0, MIN), BAD);
        refusesOn(BackSeat::new, "best(0, 0) of no PASSENGERS", y -> y.best(0, 0), BAD);
        refusesOn(Bounds::fullCoach, "best(8, 0)", y -> y.best(8, 0), BAD);
    }

    private static void theFirstOfLikeSeats() {
        says(12, "on which DIN would be least; of like ones the first.");
        due("all alike: SEAT 0", sounding("5", 23).best(0, 0), 0);
        due("all alike: DIN", sounding("5", 23).best(0, 1), 5);
        due("two alike", sounding("9 - 9 * (row = 3) * (column < 3)", 0).best(0, 0), 12);
        due("the last SEAT", sounding("23 - row * 4 - column", 0).best(0, 0), 23);
        due("the last SEAT: DIN", sounding("23 - row * 4 - column", 0).best(0, 1), 0);
        due("the first SEAT", sounding("row * 4 + column", 23).best(0, 0), 0);
        due("who stands", sounding("row * 4 + column", NONE).best(0, 0), 0);
    }

    private static void freeOrOnesOwn() {
        says(12, "BEST SEAT (a PASSENGER): the free SEAT, or one's own");
        BackSeat x = sounding("row * 4 + column", 0, 1, 2, 3, 4, 5, 6, 8);
        due("one's own", x.best(0, 0), 0);
        due("one's own: DIN", x.best(0, 1), 29);
        due("the free one ahead of one's own", x.best(7, 0), 7);
        due("one's own, not one that is taken", x.best(6, 0), 6);
        x.sit(7, 7);
        due("one's own, the last", x.best(7, 0), 7);
        x.sit(7, NONE);
        due("who stands", x.best(7, 0), 7);
        due("of like ones one's own is not ahead", sounding("5", 9).best(0, 0), 0);
    }

    private static void bestForAll() {
        says(12, "on which DIN would be least");
        BackSeat x = coach(one(TOM, 0, 20), one(TEACHER, 0, NONE), one(TOM, 0, 21));
        due("a TEACHER between is none", x.best(1, 0), 22);
        due("DIN then", x.best(1, 1), 25);
        x.sit(2, 23);
        due("none for both in a pair", x.best(1, 0), 21);
        BackSeat y = coach(one(TOM, 0, 20), one(TEACHER, 0, NONE), one(TOM, 0, 22));
        due("a TEACHER between two", y.best(1, 0), 21);
        due("DIN then, of both", y.best(1, 1), 0);
        asks("best(1, 0)", z -> z.best(1, 0), 21);
        asks("best(3, 1)", z -> z.best(3, 1), 51);
    }

    // ---- promise 13

    private static void change() {
        says(13, "CHANGE: 10 times the one, and the other (what 0; NONE), DIN then (1; as now, if none). BAD.");
        BackSeat x = coach(one(LOUD, 0, 16), one(CHILD, 0, 0));
        due("change(0)", x.change(0), 1);
        due("change(1)", x.change(1), 10 + 9);
        refuses("change(2)", y -> y.change(2), BAD);
        refuses("change(-1)", y -> y.change(-1), BAD);
        refuses("change(MAX)", y -> y.change(MAX), BAD);
        refuses("change(MIN)", y -> y.change(MIN), BAD);
        BackSeat last = fullCoach();
        last.force(0);
        for (int i = 0; i < 8; i++) {
            last.sit(i, NONE);
        }
        last.sit(1, 16);
        last.sit(7, 0);
        due("1 and 7, the others stand", last.change(0), 17);
    }

    private static void changeOfTheLast() {
        says(13, "10 times the one, and the other");
        BackSeat x = new BackSeat();
        for (int i = 0; i < 8; i++) {
            x.passenger(i == 7 ? LOUD : CHILD, 0);
        }
        x.sit(6, 0);
        x.sit(7, 20);
        due("6 and 7", x.change(0), 67);
        x.sit(5, 1);
        due("the lesser one of like ones", x.change(0), 57);
        x.sit(0, 2);
        due("0 and 7", x.change(0), 7);
        BackSeat y = coach(one(LOUD, 0, 20), one(CHILD, 0, 0));
        due("0 and 1", y.change(0), 1);
    }

    private static void changeOfTwoWhoSit() {
        says(13, "CHANGE: the two PASSENGERS who both sit, the lesser first");
        BackSeat x = coach(one(LOUD, 0, 20), one(CHILD, 0, NONE), one(CHILD, 0, 16));
        due("who stands does not change", x.change(0), 2);
        due("DIN then", x.change(1), 18 + 10);
        x.sit(2, NONE);
        due("one alone", x.change(0), NONE);
        due("one alone: as now", x.change(1), 20);
        x.sit(0, NONE);
        due("all stand", x.change(0), NONE);
        due("all stand: as now", x.change(1), 0);
        due("nobody", new BackSeat().change(0), NONE);
        due("nobody: as now", new BackSeat().change(1), 0);
    }

    private static void changeIfLess() {
        says(13, "by whose changing of SEATS DIN would be least, if less than now; of like ones the first; NONE.");
        due("as much", coach(one(LOUD, 0, 20), one(LOUD, 0, 0)).change(0), NONE);
        due("as much: as now", coach(one(LOUD, 0, 20), one(LOUD, 0, 0)).change(1), 30);
        due("more", coach(one(LOUD, 0, 0), one(CHILD, 0, 20)).change(0), NONE);
        BackSeat x = coach(one(CHILD, 0, 4), one(LOUD, 0, 8), one(LOUD, 0, 9), one(CHILD, 0, 5));
        due("of four like ones the first", x.change(0), 1);
        BackSeat y = coach(one(CHILD, 0, 4), one(LOUD, 0, 8), one(LOUD, 0, 20), one(CHILD, 0, 0));
        due("the least, not the first", y.change(0), 23);
        due("the least", y.change(1), 6 + 14 + 10 + 10);
        due("one less is less", coach(one(LOUD, 0, 4), one(CHILD, 0, 0)).change(1), 16);
        due("one less is less: who", coach(one(LOUD, 0, 4), one(CHILD, 0, 0)).change(0), 1);
        asks("change(0), the TEACHER comes to the TOM", w -> w.change(0), 2);
        asks("change(1)", w -> w.change(1), 12);
    }

    // ---- promise 14

    private static void watch() {
        says(14, "WATCH: 10 times the one, and the one BESIDE the TEACHER (what 0; NONE), DIN then (1; as now, if none). BAD.");
        BackSeat x = coach(one(TEACHER, 0, 0), one(CHILD, 0, 1), one(TOM, 0, 2));
        due("watch(0)", x.watch(0), 21);
        due("watch(1)", x.watch(1), 5);
        refuses("watch(2)", y -> y.watch(2), BAD);
        refuses("watch(-1)", y -> y.watch(-1), BAD);
        refuses("watch(MAX)", y -> y.watch(MAX), BAD);
        refuses("watch(MIN)", y -> y.watch(MIN), BAD);
        BackSeat last = new BackSeat();
        for (int i = 0; i < 8; i++) {
            last.passenger(i == 7 ? TOM : i == 5 ? TEACHER : CHILD, 0);
        }
        last.sit(5, 0);
        last.sit(6, 1);
        last.sit(7, 4);
        due("7 and 6", last.watch(0), 76);
        last.sit(6, NONE);
        last.sit(0, 1);
        due("7 and 0", last.watch(0), 70);
        BackSeat first = coach(one(TOM, 0, 2), one(TEACHER, 0, 0), one(CHILD, 0, 1));
        due("0 and 2", first.watch(0), 2);
        due("0 and 2: DIN", first.watch(1), 5);
    }

    private static void watchNoneOfTheTeachers() {
        says(14, "WATCH: the PASSENGER (none of the TEACHERS)");
        BackSeat x = coach(one(TEACHER, 0, 20), one(CHILD, 0, 21), one(TEACHER, 0, 0));
        due("a TEACHER does not change", x.watch(0), NONE);
        due("a TEACHER does not change: as now", x.watch(1), 10);
        BackSeat y = coach(one(TEACHER, 0, 20), one(CHILD, 0, 21), one(CHILD, 0, 0));
        due("as much", y.watch(0), NONE);
        BackSeat z = coach(one(TEACHER, 0, 20), one(LOUD, 0, 21), one(CHILD, 0, 0));
        due("a CHILD does", z.watch(0), 21);
        due("a CHILD does: DIN", z.watch(1), 10 + 10);
        BackSeat w = coach(one(TEACHER, 0, 0), one(TEACHER, 0, 1), one(TOM, 0, 4));
        due("the one BESIDE may be a TEACHER", w.watch(0), 21);
        due("the one BESIDE may be a TEACHER: DIN", w.watch(1), 0);
    }

    private static void watchByTheFirstTeacherThatSits() {
        says(14, "with one who sits BESIDE the first TEACHER that sits (of all these changes)");
        BackSeat x = coach(one(TEACHER, 0, NONE), one(TEACHER, 0, 2), one(TEACHER, 0, 0), one(CHILD, 0, 3), one(CHILD, 0, 1),
            one(TOM, 0, 4));
        due("the first that sits", x.watch(0), 53);
        x.sit(0, 22);
        due("nobody BESIDE the first", x.watch(0), NONE);
        due("nobody BESIDE the first: as now", x.watch(1), 5 + 5 + 17);
        x.sit(0, NONE);
        x.sit(1, NONE);
        due("the third", x.watch(0), 54);
        x.sit(2, NONE);
        due("no TEACHER sits", x.watch(0), NONE);
        due("no TEACHER sits: as now", x.watch(1), 27);
        due("no TEACHER", coach(one(TOM, 0, 0), one(CHILD, 0, 1)).watch(0), NONE);
        due("no TEACHER: as now", coach(one(TOM, 0, 0), one(CHILD, 0, 1)).watch(1), 20);
        due("nobody", new BackSeat().watch(0), NONE);
        due("nobody: as now", new BackSeat().watch(1), 0);
    }

    /** One who stands has no SEAT to change. */
    private static void watchOfOneWhoStands() {
        says(14, "by whose changing of SEATS with one who sits BESIDE");
        BackSeat x = coach(one(TEACHER, 0, 20), one(LOUD, 9, 21), one(TOM, 0, NONE));
        due("who stands", x.watch(0), NONE);
        due("who stands: as now", x.watch(1), 29);
        x.sit(2, 0);
        due("who sits", x.watch(0), 21);
    }

    private static void watchIfLess() {
        says(14, "DIN would be least, if less; of like ones the first by number, then by that one; NONE.");
        BackSeat x = coach(one(CHILD, 0, 20), one(TEACHER, 0, 21), one(CHILD, 0, 22), one(TOM, 0, 1), one(TOM, 0, 2));
        due("of four like ones the first", x.watch(0), 30);
        due("of four like ones: DIN", x.watch(1), 10 + 5 + 15);
        BackSeat y = coach(one(CHILD, 0, 22), one(TEACHER, 0, 21), one(CHILD, 0, 20), one(TOM, 0, 6), one(TOM, 0, 4));
        due("by number, not by SEAT", y.watch(0), 30);
        due("by number: DIN", y.watch(1), 6 + 10 + 17);
        y.sit(3, 1);
        due("the least, not the first", y.watch(0), 40);
        due("the least: DIN", y.watch(1), 6 + 10 + 15);
        BackSeat z = coach(one(CHILD, 0, 20), one(TEACHER, 0, 21), one(TOM, 0, 22));
        due("two who both sit BESIDE: as much", z.watch(0), NONE);
        due("two who both sit BESIDE: as now", z.watch(1), 10);
        BackSeat w = coach(one(TOM, 0, 20), one(TEACHER, 0, 21), one(LOUD, 3, 22), one(CHILD, 0, 0));
        due("the best one to change with", w.watch(0), 32);
        due("the best one to change with: DIN", w.watch(1), 10 + 10);
        asks("watch(0)", v -> v.watch(0), NONE);
        asks("watch(1)", v -> v.watch(1), 41);
    }

    // ---- promise 15

    private static void hat() {
        says(15, "HAT: JOY then (what 0), the order as digits (1: 1 more than each place among those told, SEAT by SEAT, "
            + "the first the highest).");
        BackSeat x = joying("number * (column = 0) + 2 * number * (column = 1)", 9, 10, 11);
        row(x, 0, 0, 2, 0, 1, 8, 9, 10);
        due("hat(0, 0)", x.hat(0, 0), 5);
        due("hat(0, 1)", x.hat(0, 1), 312);
        due("told(2, 5) stays", x.told(2, 5), 11);
        row(x, 0, 0, 1, 2, 9, 10);
        x.sit(0, NONE);
        due("others left out: hat(0, 1)", x.hat(0, 1), 21);
        due("others left out: hat(0, 0)", x.hat(0, 0), 4);
    }

    private static void hatsWhat() {
        says(15, "-100000: SHEET, what; it is missing; it isn't as told.");
        Maker maker = () -> row(someCoach(), 0, 0, 0, 1, 0, 23);
        due("hat(0, 0)", maker.make().hat(0, 0), 0 + 20 - 5);
        refusesOn(maker, "hat(0, 2)", x -> x.hat(0, 2), REFUSED);
        refusesOn(maker, "hat(0, -1)", x -> x.hat(0, -1), REFUSED);
        refusesOn(maker, "hat(0, MAX)", x -> x.hat(0, MAX), REFUSED);
        refusesOn(maker, "hat(4, 0)", x -> x.hat(4, 0), REFUSED);
        refusesOn(maker, "hat(-1, 0)", x -> x.hat(-1, 0), REFUSED);
        refusesOn(maker, "hat(MAX, 0)", x -> x.hat(MAX, 0), REFUSED);
        refusesOn(maker, "hat(MIN, 0)", x -> x.hat(MIN, 0), REFUSED);
        refusesOn(maker, "hat(3, 0), missing", x -> x.hat(3, 0), REFUSED);
        due("hat(3, 0) of SHEET 3", row(someCoach(), 3, 2, 0, 0).hat(3, 0), 0 + 4 - 5);
    }

    private static void hatIsNotAsTold(int... items) {
        StringBuilder what = new StringBuilder("hat of");
        for (int item : items) {
            what.append(' ').append(item);
        }
        refusesOn(() -> row(manyWhoSit(), 3, 2, items), what.toString(), x -> x.hat(3, 0), REFUSED);
        due(what + ", the order", row(manyWhoSit(), 3, 2, items).hat(3, 1), REFUSED);
    }

    /** 8 PASSENGERS on SEATS 0 .. 7, each GLAD by one more than the SEAT's COLUMN. */
    private static BackSeat manyWhoSit() {
        return joying("column + 1", 0, 1, 2, 3, 4, 5, 6, 7);
    }

    private static long hatAsTold(int... items) {
        return row(manyWhoSit(), 3, 2, items).hat(3, 1);
    }

    private static void oneToSix() {
        says(15, "of some PASSENGERS that a SHEET tells, and as many SEATS behind them (1 .. 6 of each");
        due("1 of each", hatAsTold(0, 8), 1);
        due("6 of each", hatAsTold(0, 1, 2, 3, 4, 5, 8, 9, 10, 11, 12, 13), 123456);
        hatIsNotAsTold();
        hatIsNotAsTold(0, 1, 2, 3, 4, 5, 6, 8, 9, 10, 11, 12, 13, 14);
        hatIsNotAsTold(0, 1, 2, 3, 4, 5, 6, 7, 8, 9, 10, 11, 12, 13, 14, 15);
        hatIsNotAsTold(new int[40]);
        hatIsNotAsTold(0);
        hatIsNotAsTold(0, 1, 8);
        hatIsNotAsTold(0, 1, 2, 3, 4, 5, 8, 9, 10, 11, 12);
        hatIsNotAsTold(0, 1, 2, 3, 4, 5, 8, 9, 10, 11, 12, 13, 14);
    }

    private static void passengersAndSeatsOfAHat() {
        says(15, "HAT: of some PASSENGERS that a SHEET tells");
        due("the first and the last", hatAsTold(7, 0, 0, 23), 12);
        hatIsNotAsTold(8, 8);
        hatIsNotAsTold(-1, 8);
        hatIsNotAsTold(0, 8, 8, 9);
        hatIsNotAsTold(MIN, 8);
        hatIsNotAsTold(MAX, 8);
        hatIsNotAsTold(0, 24);
        hatIsNotAsTold(0, -1);
        hatIsNotAsTold(0, 1, 8, 24);
        hatIsNotAsTold(0, MIN);
        hatIsNotAsTold(0, MAX);
        BackSeat few = row(joying("1", NONE, NONE), 0, 0, 1, 8);
        due("of those there are", few.hat(0, 1), 1);
        refusesOn(() -> row(joying("1", NONE), 0, 0, 1, 8), "of two, when one has come", x -> x.hat(0, 1), REFUSED);
    }

    private static void noneTwice() {
        says(15, "none twice, SEATS free or of these PASSENGERS)");
        due("two and two", hatAsTold(0, 1, 8, 9), 12);
        hatIsNotAsTold(0, 0, 8, 9);
        hatIsNotAsTold(0, 1, 8, 8);
        hatIsNotAsTold(0, 1, 2, 3, 4, 0, 8, 9, 10, 11, 12, 13);
        hatIsNotAsTold(0, 1, 2, 3, 4, 5, 8, 9, 10, 11, 12, 8);
        hatIsNotAsTold(0, 1, 2, 3, 5, 5, 8, 9, 10, 11, 12, 13);
        due("one's number as a SEAT is not twice", hatAsTold(0, 1, 0, 1), 12);
    }

    private static void freeSeatsOrTheirs() {
        says(15, "SEATS free or of these PASSENGERS");
        due("one's own", hatAsTold(0, 0), 1);
        due("each other's", hatAsTold(0, 1, 1, 0), 12);
        due("a free one and one of theirs", hatAsTold(0, 1, 1, 8), 12);
        hatIsNotAsTold(0, 1);
        hatIsNotAsTold(0, 1, 1, 2);
        hatIsNotAsTold(0, 1, 2, 3, 4, 5, 0, 1, 2, 3, 4, 6);
        BackSeat x = manyWhoSit();
        x.sit(7, NONE);
        due("one left by who stands", row(x, 0, 0, 0, 7).hat(0, 1), 1);
    }

    private static void joyWouldBeMost() {
        says(15, "the order of the PASSENGERS on the SEATS in which JOY would be most; of like ones the first.");
        due("all alike", hatAsTold(5, 4, 3, 2, 1, 0, 0, 4, 8, 12, 16, 20), 123456);
        BackSeat x = joying("0 - number * (row + 1)", 0, 4, 8, 12, 16, 20);
        row(x, 0, 0, 0, 1, 2, 3, 4, 5, 0, 4, 8, 12, 16, 20);
        due("the last order", x.hat(0, 1), 654321);
        due("the last order: JOY", x.hat(0, 0), -(5 + 8 + 9 + 8 + 5));
        row(x, 0, 0, 5, 4, 3, 2, 1, 0, 0, 4, 8, 12, 16, 20);
        due("the first order", x.hat(0, 1), 123456);
        BackSeat y = coach(one(CHILD, 0, 0), one(CHILD, 0, NONE), one(CHILD, 0, NONE));
        y.set(3, 0, 2);
        row(y, 0, 0, 1, 2, 8, 1);
        due("JOY of the others counts, too", y.hat(0, 1), 12);
        due("JOY of the others: how much", y.hat(0, 0), 12);
        row(y, 0, 0, 2, 1, 8, 1);
        due("JOY of the others, told the other way", y.hat(0, 1), 21);
        BackSeat z = coach(one(CHILD, 0, 8), one(CHILD, 0, 9));
        due("each BESIDE the other, on changed SEATS", row(z, 0, 0, 0, 1, 9, 8).hat(0, 0), 2);
        due("each BESIDE the other: the order", z.hat(0, 1), 12);
        BackSeat w = joying("beside + number * (column = 0)", 8, 9);
        due("they change SEATS", row(w, 0, 0, 0, 1, 8, 9).hat(0, 1), 21);
        due("they change SEATS, each BESIDE the other", w.hat(0, 0), 1 + 2);
        due("below 0", row(joying("0-9", 0), 0, 0, 0, 5).hat(0, 0), -9);
        due("below 0: the order", row(joying("0-9", 0), 0, 0, 0, 5).hat(0, 1), 1);
    }

    private static void sheetsOfAnySort() {
        says(15, "of some PASSENGERS that a SHEET tells");
        for (int sort = 0; sort <= 2; sort++) {
            due("sort " + sort, row(manyWhoSit(), 1, sort, 7, 23).hat(1, 1), 1);
        }
        due("a byte of 263 is 7", row(manyWhoSit(), 1, 0, 263, 23).hat(1, 1), 1);
        due("an int of 263 is none", row(manyWhoSit(), 1, 2, 263, 23).hat(1, 1), REFUSED);
    }

    private static void hatIsInThought() {
        says(15, "JOY then (what 0)");
        Maker maker = () -> row(someCoach(), 0, 0, 0, 1, 3, 0, 23, 9);
        asksOn(maker, "hat(0, 0)", x -> x.hat(0, 0), 3 + 20 + 2 - 5);
        asksOn(maker, "hat(0, 1)", x -> x.hat(0, 1), 321);
    }
}
