import java.util.List;

/** The bounds of promises 18 to 24: noises that were told, seats that are drawn, AN IMAGE, counts. */
public final class ToldBoundsTest extends Bounds {
    private static final String PLACES = "sounds row*4+column;turns 0;joys 0;";
    private static final long NO = -4611686018427387904L;

    public static void main(String[] args) {
        runAll(ToldBoundsTest.class);
    }

    private static BackSeat childrenOn(String text, int... seats) {
        BackSeat x = new BackSeat();
        for (int i = 0; i < seats.length; i++) {
            x.passenger(CHILD, i);
            x.sit(i, seats[i]);
        }
        return rule(x, text);
    }

    /** A coach, and SHEET 0 of ints that tells noises. */
    private static BackSeat telling(BackSeat x, int... noises) {
        return row(x, 0, 2, noises);
    }

    // ---- promise 18

    private static void whoIsntSo() {
        says(18, "TOLD: a SHEET tells NOISE of each PASSENGER: who isn't so (bits);");
        BackSeat x = childrenOn(PLACES, 1, 2, 3, 4, 5, 6, 7, 8);
        due("all are so", telling(x, 1, 2, 3, 4, 5, 6, 7, 8).tells(0, 0), 0);
        due("0 isn't", telling(x, 0, 2, 3, 4, 5, 6, 7, 8).tells(0, 0), 1);
        due("7 isn't", telling(x, 1, 2, 3, 4, 5, 6, 7, 9).tells(0, 0), 128);
        due("none is", telling(x, 2, 3, 4, 5, 6, 7, 8, 9).tells(0, 0), 255);
        due("-1 isn't 1", telling(x, -1, 2, 3, 4, 5, 6, 7, 8).tells(0, 0), 1);
        x.sit(7, NONE);
        due("who stands is so by 0", telling(x, 1, 2, 3, 4, 5, 6, 7, 0).tells(0, 0), 0);
    }

    private static void tellsOfNobody() {
        says(18, "TOLD: who isn't so (what 0), TEXTS (1), MILES: how many (2), the least (3; NONE)");
        BackSeat x = telling(new BackSeat());
        due("tells(0, 0)", x.tells(0, 0), 0);
        due("tells(0, 1)", x.tells(0, 1), 1);
        due("tells(0, 2)", x.tells(0, 2), 100);
        due("tells(0, 3)", x.tells(0, 3), 0);
        due("tells(0, 10), no such PASSENGER", x.tells(0, 10), BAD);
    }

    private static void kinds() {
        says(18, "KINDS (bits 0 .. 5)");
        due("a CHILD alone", telling(coach(one(CHILD, 3, 8)), 7).tells(0, 10), 1);
        due("a TEACHER alone", telling(coach(one(CHILD, 3, 8)), 0).tells(0, 10), 1 << 5);
        due("a LOUD", telling(coach(one(CHILD, 3, 8)), 14).tells(0, 10), 1 << 1);
        due("a SICKLY", telling(coach(one(CHILD, 2, 8)), 3).tells(0, 10), 1 << 2);
        due("a TOM", telling(coach(one(CHILD, 3, 8)), 19).tells(0, 10), 1 << 3);
        due("a BABY", telling(coach(one(CHILD, 3, 8)), 6).tells(0, 10), 1 << 4);
        due("none", telling(coach(one(CHILD, 3, 8)), 8).tells(0, 10), 0);
        due("all, who stands", telling(coach(one(CHILD, 3, NONE)), 0).tells(0, 10), 63);
        due("all but a BABY and a TOM", telling(rule(coach(one(CHILD, 3, 8)), "sounds 0;turns 0;joys 0;"), 0).tells(0, 10), 39);
        BackSeat x = telling(coach(one(CHILD, 0, 8), one(TOM, 0, 9)), 0, 0);
        due("a TEACHER makes the TOM quiet", x.tells(0, 10), 1 << 5);
        due("the TOM's KIND", x.tells(0, 11), 0);
        due("told(0, 4) stays", x.told(0, 4), CHILD);
    }

    private static void numbers() {
        says(18, "NUMBERS (bits 0 .. 9)");
        BackSeat x = rule(coach(one(CHILD, 5, 8)), "sounds number;turns 0;joys 0;");
        due("NUMBER 0", telling(x, 0).tells(0, 20), 1);
        due("NUMBER 9", telling(x, 9).tells(0, 20), 1 << 9);
        due("NUMBER 5", telling(x, 5).tells(0, 20), 1 << 5);
        due("none", telling(x, 10).tells(0, 20), 0);
        due("all", telling(coach(one(CHILD, 5, 8)), 7).tells(0, 20), 1023);
        BackSeat y = rule(coach(one(CHILD, 5, 8)), "sounds number < 3;turns 0;joys 0;");
        due("some", telling(y, 1).tells(0, 20), 7);
        due("the others", telling(y, 0).tells(0, 20), 1023 - 7);
        due("told(0, 2) stays", y.told(0, 2), 5);
    }

    private static void seats() {
        says(18, "SEATS (bits 0 .. 23; free ones, or one's own)");
        BackSeat x = childrenOn(PLACES, 5, 7);
        due("SEAT 0", telling(x, 0, 7).tells(0, 30), 1);
        due("SEAT 23", telling(x, 23, 7).tells(0, 30), 1 << 23);
        due("one's own", telling(x, 5, 7).tells(0, 30), 1 << 5);
        due("one that is taken", telling(x, 7, 7).tells(0, 30), 0);
        due("none", telling(x, 24, 7).tells(0, 30), 0);
        due("of the other", telling(x, 5, 8).tells(0, 31), 1 << 8);
        BackSeat y = childrenOn("sounds 6;turns 0;joys 0;", 0, 23);
        due("all but the other's", telling(y, 6, 6).tells(0, 30), (1 << 23) - 1);
        due("all but the first's", telling(y, 6, 6).tells(0, 31), (1 << 24) - 2);
        y.sit(0, NONE);
        due("who stands", telling(y, 6, 6).tells(0, 30), (1 << 23) - 1);
        due("standing is no SEAT", telling(y, 0, 6).tells(0, 30), 0);
        due("told(0, 5) stays", y.told(0, 5), NONE);
    }

    private static void miles() {
        says(18, "MILES (of 0 .. 99: how many, the least)");
        BackSeat x = childrenOn("sounds mile;turns 0;joys 0;", 5);
        x.set(0, 0, 50);
        due("MILE 0 alone", telling(x, 0).tells(0, 2), 1);
        due("MILE 0", x.tells(0, 3), 0);
        due("MILE 99 alone", telling(x, 99).tells(0, 2), 1);
        due("MILE 99", x.tells(0, 3), 99);
        due("none", telling(x, 100).tells(0, 2), 0);
        due("none: the least", x.tells(0, 3), NONE);
        BackSeat y = childrenOn("sounds 9 < mile and mile < 30;turns 0;joys 0;", 5);
        due("20 MILES", telling(y, 1).tells(0, 2), 20);
        due("from 10 on", y.tells(0, 3), 10);
        due("80 MILES", telling(y, 0).tells(0, 2), 80);
        due("all", telling(childrenOn("sounds 7;turns 0;joys 0;", 5), 7).tells(0, 2), 100);
        due("told(0, 0) stays", x.told(0, 0), 50);
    }

    private static void texts() {
        says(18, "TEXTS (bits), were they THE RULE, by which nobody would be otherwise.");
        BackSeat x = coach(one(CHILD, 0, 8));
        due("TEXT 0 alone", telling(x, 7).tells(0, 1), 1);
        for (int i = 1; i <= 5; i++) {
            read(x, "sounds " + (i == 5 ? 9 : 7) + ";turns 0;joys 0;");
        }
        due("all but TEXT 5", telling(x, 7).tells(0, 1), 31);
        due("TEXT 5 alone", telling(x, 9).tells(0, 1), 32);
        due("none", telling(x, 8).tells(0, 1), 0);
        x.force(5);
        due("by another RULE the same", telling(x, 7).tells(0, 1), 31);
        due("count(4) stays", x.count(4), 5);
        due("one who stands: all", telling(coach(one(CHILD, 0, NONE)), 0).tells(0, 1), 1);
    }

    private static void nobodyElseOtherwise() {
        says(18, "by which nobody would be otherwise.");
        BackSeat x = telling(coach(one(CHILD, 0, 8), one(CHILD, 0, 10)), 7, 6);
        due("tells(0, 0)", x.tells(0, 0), 2);
        due("another is otherwise: KINDS", x.tells(0, 10), 0);
        due("another is otherwise: NUMBERS", x.tells(0, 20), 0);
        due("another is otherwise: SEATS", x.tells(0, 30), 0);
        due("one is otherwise: SEATS", x.tells(0, 31), 15 << 4);
        due("TEXTS", x.tells(0, 1), 0);
        due("MILES", x.tells(0, 2), 0);
    }

    private static void tellsWhat() {
        says(18, "KINDS of PASSENGER what modulo 10 (10 ..), NUMBERS (20 ..), SEATS (30 ..). BAD: SHEET, what, no such PASSENGER;");
        Maker maker = () -> row(fullCoach(), 3, 2, 12, 29, 0, 0, 0, 0, 0, 0);
        due("tells(3, 17)", maker.make().tells(3, 17), 63);
        due("tells(3, 27)", maker.make().tells(3, 27), 1023);
        due("tells(3, 37)", maker.make().tells(3, 37), 0);
        due("tells(3, 3)", maker.make().tells(3, 3), 12);
        for (int what : new int[] {-1, 4, 9, 18, 19, 28, 29, 38, 39, 40, 47, MIN, MAX}) {
            refusesOn(maker, "tells(3, " + what + ")", x -> x.tells(3, what), BAD);
        }
        for (int what : new int[] {14, 24, 34}) {
            refuses("tells(1, " + what + ") of 4 PASSENGERS", x -> x.tells(1, what), BAD);
        }
        asks("tells(1, 13)", x -> x.tells(1, 13), 63);
        refuses("tells(4, 0)", x -> x.tells(4, 0), BAD);
        refuses("tells(-1, 0)", x -> x.tells(-1, 0), BAD);
        refuses("tells(MAX, 0)", x -> x.tells(MAX, 0), BAD);
        refuses("tells(MIN, 0)", x -> x.tells(MIN, 0), BAD);
    }

    private static void tellsOfAMissingSheet() {
        says(18, "BAD: SHEET, what, no such PASSENGER; -11;");
        refuses("tells(3, 0)", x -> x.tells(3, 0), NOTHING);
        refuses("tells(3, 13)", x -> x.tells(3, 13), NOTHING);
        refuses("tells(3, 33)", x -> x.tells(3, 33), NOTHING);
        refuses("tells(3, 4), BAD ahead of -11", x -> x.tells(3, 4), BAD);
        refuses("tells(3, 14), BAD ahead of -11", x -> x.tells(3, 14), BAD);
        refuses("tells(4, 4)", x -> x.tells(4, 4), BAD);
        refusesOn(BackSeat::new, "tells(0, 0) of a new object", x -> x.tells(0, 0), NOTHING);
        due("a row of none is not missing", row(standing(1), 0, 0).tells(0, 0), BAD);
    }

    private static void tellsOfAnotherSize() {
        says(18, "-11; BAD: its size isn't how many PASSENGERS there are.");
        refuses("tells(0, 0), 6 of 4", x -> x.tells(0, 0), BAD);
        refuses("tells(0, 10), 6 of 4", x -> x.tells(0, 10), BAD);
        asks("tells(1, 0), 4 of 4", x -> x.tells(1, 0), 0);
        BackSeat x = standing(2);
        due("1 of 2", row(x, 0, 0, 0).tells(0, 0), BAD);
        due("2 of 2", row(x, 0, 0, 0, 0).tells(0, 0), 0);
        due("3 of 2", row(x, 0, 0, 0, 0, 0).tells(0, 0), BAD);
        due("0 of 2", row(x, 0, 0).tells(0, 0), BAD);
        due("40 of 2", row(x, 0, 0, new int[40]).tells(0, 0), BAD);
        x.passenger(0, 0);
        row(x, 0, 0, 0, 0);
        due("2 of 3", x.tells(0, 31), BAD);
    }

    private static void tellsOfEachSort() {
        says(18, "a SHEET tells NOISE of each PASSENGER");
        BackSeat x = rule(coach(one(LOUD, 0, 8)), "sounds 64;turns 0;joys 0;");
        due("128 in a byte is -128", row(x, 0, 0, 128).tells(0, 0), 1);
        due("128 in a short", row(x, 0, 1, 128).tells(0, 0), 0);
        due("128 in an int", row(x, 0, 2, 128).tells(0, 0), 0);
        BackSeat y = rule(coach(one(LOUD, 0, 8), one(CHILD, 0, 9)), "sounds 63+column;turns 0;joys 0;");
        due("126 in a byte", row(y, 0, 0, 126, 64).tells(0, 0), 0);
    }

    private static void tellsOnlyAsks() {
        says(18, "were they THE RULE");
        for (int what : new int[] {0, 1, 2, 3, 10, 11, 12, 13, 20, 23, 30, 31, 32, 33}) {
            long due = someCoach().tells(1, what);
            asks("tells(1, " + what + ")", x -> x.tells(1, what), due);
        }
    }

    // ---- promise 19

    private static void film() {
        says(19, "A SHEET truly becomes NOISE of each PASSENGER (shorts): how many. BAD.");
        BackSeat x = someCoach();
        for (int sheet = 0; sheet < 4; sheet++) {
            due("film(" + sheet + ")", x.film(sheet), 4);
            due("tells(" + sheet + ", 0)", x.tells(sheet, 0), 0);
            due("is of shorts", x.passengers(sheet, 1, 0, 0), 0);
            due("has 4", x.cell(sheet, 3, 0), 1);
            due("has no more", x.cell(sheet, 4, 0), OUTSIDE);
        }
        refuses("film(4)", y -> y.film(4), BAD);
        refuses("film(-1)", y -> y.film(-1), BAD);
        refuses("film(MAX)", y -> y.film(MAX), BAD);
        refuses("film(MIN)", y -> y.film(MIN), BAD);
    }

    private static void filmOfNobodyAndOfEight() {
        says(19, "NOISE of each PASSENGER (shorts): how many.");
        BackSeat x = new BackSeat();
        due("film of nobody", x.film(0), 0);
        due("is not missing", x.cell(0, 0, 0), OUTSIDE);
        due("tells(0, 0)", x.tells(0, 0), 0);
        BackSeat y = fullCoach();
        due("film of 8", y.film(0), 8);
        due("tells(0, 0) of 8", y.tells(0, 0), 0);
        BackSeat most = rule(coach(one(TOM, 9, 20)), "sounds 99;turns 0;joys 0;");
        most.film(0);
        due("212", most.tells(0, 0), 0);
        due("212: the NUMBER", most.tells(0, 20), 1 << 9);
    }

    private static void filmIsOfThen() {
        says(19, "truly becomes NOISE");
        BackSeat x = childrenOn(PLACES, 5, 7);
        x.film(0);
        x.sit(0, 6);
        due("one has changed", x.tells(0, 0), 1);
        due("where one was", x.tells(0, 30), 1 << 5);
        x.passenger(0, 0);
        due("one more has come", x.tells(0, 0), BAD);
    }

    // ---- promise 20

    private static int next(int z) {
        return z * 1103515245 + 12345;
    }

    private static int seatOf(int z) {
        return (z >>> 9) % 24;
    }

    /** The first SEED from a number on by which the first two would draw these SEATS. */
    private static int seedFor(int from, int first, int second) {
        for (int seed = from; seed < from + 100000; seed++) {
            int z = next(seed);
            if (seatOf(z) == first && seatOf(next(z)) == second) {
                return seed;
            }
        }
        return 0;
    }

    private static void drawn() {
        says(20, "DRAWN by a SEED: each PASSENGER, by numbers, would sit on the first free SEAT from (z >>> 9) % 24 on");
        // SEED 0: z is 12345, 12345 >>> 9 is 24, % 24 is 0
        due("SEED 0", childrenOn(PLACES, NONE).drawn(0), 0);
        for (int seat = 0; seat < 24; seat++) {
            due("a SEED for SEAT " + seat, childrenOn(PLACES, 9).drawn(seedFor(0, seat, 0)), seat);
        }
        due("nobody", new BackSeat().drawn(5), 0);
        asks("drawn(7)", x -> x.drawn(7), someCoach().drawn(7));
    }

    private static void drawnOfEight() {
        says(20, "DRAWN.");
        int[] seats = {0, 1, 2, 3, 4, 5, 6, 7};
        for (int seed = -20; seed < 20; seed++) {
            int due = 0;
            boolean[] isTaken = new boolean[24];
            int z = seed;
            for (int one = 0; one < 8; one++) {
                z = next(z);
                int seat = seatOf(z);
                while (isTaken[seat]) {
                    seat = seat == 23 ? 0 : seat + 1;
                }
                isTaken[seat] = true;
                due += seat;
            }
            due("SEED " + seed, childrenOn(PLACES, seats).drawn(seed), due);
        }
    }

    private static void drawnBehind23() {
        says(20, "on (0 behind 23)");
        int seed = seedFor(0, 23, 23);
        due("two on 23: 23 and 0", childrenOn(PLACES, 4, 5).drawn(seed), 23);
        due("two on 22: 22 and 23", childrenOn(PLACES, 4, 5).drawn(seedFor(0, 22, 22)), 45);
        due("two on 0: 0 and 1", childrenOn(PLACES, 4, 5).drawn(seedFor(0, 0, 0)), 1);
        due("22 and 23", childrenOn(PLACES, 4, 5).drawn(seedFor(0, 23, 22)), 45);
        BackSeat x = coach(one(CHILD, 0, 4), one(LOUD, 0, 5));
        due("by numbers: the second goes on", rule(x, PLACES).drawn(seedFor(0, 20, 20)), 20 + 2 * 21);
    }

    private static void allHavingStoodUp() {
        says(20, "all having stood up first");
        int seed = seedFor(0, 11, 11);
        due("one's own SEAT is free", childrenOn(PLACES, 11).drawn(seed), 11);
        due("the other's, too", childrenOn(PLACES, 3, 11).drawn(seed), 11 + 12);
        due("who stand sit, too", childrenOn(PLACES, NONE, NONE).drawn(seed), 11 + 12);
    }

    private static void anInt() {
        says(20, "z being z * 1103515245 + 12345 (an int; SEED at first) anew for each: DIN.");
        for (int seed : new int[] {MIN, MAX, -1, 1, MIN + 1, MAX - 1, 1 << 9, -512}) {
            int first = seatOf(next(seed));
            int second = seatOf(next(next(seed)));
            int due = first + (second == first ? (second + 1) % 24 : second);
            due("SEED " + seed, childrenOn(PLACES, NONE, NONE).drawn(seed), due);
        }
        int below = 0;
        while (next(below) >= 0 || (next(below) >> 9) % 24 == seatOf(next(below))) {
            below++;
        }
        due("a z below 0", childrenOn(PLACES, NONE).drawn(below), seatOf(next(below)));
    }

    // ---- promise 21

    private static void chance() {
        says(21, "IN n seeds (1 .. 20), SEED and each 1 more (an int)");
        BackSeat x = childrenOn(PLACES, 23);
        due("chance(5, 1, 1)", x.chance(5, 1, 1), 1);
        due("chance(5, 20, 1)", x.chance(5, 20, 1), 1);
        BackSeat y = childrenOn(PLACES, 0);
        due("chance(0, 1, 0), SEED itself", y.chance(0, 1, 0), 1);
        due("chance(-1, 1, 0)", y.chance(-1, 1, 0), y.drawn(-1) == 0 ? 1 : 0);
        for (int n : new int[] {0, 21, -1, MIN, MAX}) {
            refuses("chance(0, " + n + ", 0)", z -> z.chance(0, n, 0), NO);
            refuses("chance(0, " + n + ", 1)", z -> z.chance(0, n, 1), NO);
        }
    }

    private static void chancePart() {
        says(21, "IN n seeds: part 0 above, 1 below the line, in lowest terms. NO: n, part.");
        refuses("chance(0, 1, 2)", z -> z.chance(0, 1, 2), NO);
        refuses("chance(0, 1, -1)", z -> z.chance(0, 1, -1), NO);
        refuses("chance(0, 1, MAX)", z -> z.chance(0, 1, MAX), NO);
        refuses("chance(0, 1, MIN)", z -> z.chance(0, 1, MIN), NO);
        due("0 of 1: above", childrenOn(PLACES, NONE).chance(seedFor(9, 8, 8), 1, 0), 0);
        due("0 of 1: below", childrenOn(PLACES, NONE).chance(seedFor(9, 8, 8), 1, 1), 1);
    }

    private static void lowestTerms() {
        says(21, "in lowest terms");
        boolean[] isSeen = new boolean[21];
        for (int seat = 0; seat < 24; seat++) {
            BackSeat x = childrenOn(PLACES, seat);
            int those = 0;
            for (int seed = 40; seed < 60; seed++) {
                those += x.drawn(seed) <= seat ? 1 : 0;
            }
            int divisor = gcd(those, 20);
            due("above, " + those + " of 20", x.chance(40, 20, 0), those / divisor);
            due("below, " + those + " of 20", x.chance(40, 20, 1), 20 / divisor);
            isSeen[those] = true;
        }
        due("20 of 20 was seen", isSeen[20] ? 1 : 0, 1);
        BackSeat none = childrenOn(PLACES, NONE);
        int seed = 0;
        while (seatOf(next(seed)) == 0 || seatOf(next(seed + 1)) == 0 || seatOf(next(seed + 2)) == 0) {
            seed++;
        }
        due("0 of 3: above", none.chance(seed, 3, 0), 0);
        due("0 of 3: below", none.chance(seed, 3, 1), 1);
    }

    private static int gcd(int a, int b) {
        return b == 0 ? a : gcd(b, a % b);
    }

    private static void noMoreThanNow() {
        says(21, "of these those by which it is no more than now.");
        int seed = seedFor(0, 12, 0);
        due("as much as now", childrenOn(PLACES, 12).chance(seed, 1, 0), 1);
        due("less than now", childrenOn(PLACES, 13).chance(seed, 1, 0), 1);
        due("more than now", childrenOn(PLACES, 11).chance(seed, 1, 0), 0);
        due("nobody: as much", new BackSeat().chance(0, 20, 0), 1);
        due("nobody: of", new BackSeat().chance(0, 20, 1), 1);
        asks("chance(3, 20, 1)", x -> x.chance(3, 20, 1), someCoach().chance(3, 20, 1));
    }

    private static void seedsAreInts() {
        says(21, "SEED and each 1 more (an int)");
        int last = seatOf(next(MAX));
        int first = seatOf(next(MIN));
        BackSeat x = childrenOn(PLACES, Math.min(last, first));
        due("MAX and MIN: above", x.chance(MAX, 2, 0), 1);
        due("MAX and MIN: below", x.chance(MAX, 2, 1), last == first ? 1 : 2);
        BackSeat y = childrenOn(PLACES, 23);
        due("MAX and 19 more", y.chance(MAX, 20, 0), 1);
        due("MIN and 19 more", y.chance(MIN, 20, 0), 1);
        BackSeat z = childrenOn(PLACES, Math.max(last, first) - 1);
        due("no other SEED", z.chance(MAX, 2, 1), last == first ? 1 : 2);
    }

    // ---- promise 22

    private static void image() {
        says(22, "AN IMAGE is kept: how many PASSENGERS.");
        BackSeat x = new BackSeat();
        due("image() of nobody", x.image(), 0);
        x.passenger(0, 0);
        due("back() to nobody", x.back(), 0);
        due("count(0)", x.count(0), 0);
        for (int i = 0; i < 8; i++) {
            x.passenger(0, i);
        }
        due("image() of 8", x.image(), 8);
        due("back() to 8", x.back(), 8);
        due("told(7, 2)", x.told(7, 2), 7);
        BackSeat y = someCoach();
        List<String> before = Portrait.of(someCoach());
        y.image();
        List<String> then = Portrait.of(y);
        for (int i = 0; i < 90; i++) {
            due(then.get(i) + ", as before", then.get(i).equals(before.get(i)) ? 1 : 0, 1);
        }
    }

    private static void theLastImage() {
        says(22, "AN IMAGE is kept");
        BackSeat x = coach(one(CHILD, 1, 4));
        x.image();
        x.set(2, 0, 2);
        x.image();
        x.set(2, 0, 3);
        due("back()", x.back(), 1);
        due("told(0, 2), the last image", x.told(0, 2), 2);
        x.set(2, 0, 4);
        x.back();
        due("told(0, 2), again", x.told(0, 2), 2);
    }

    // ---- promise 23

    private static void noImage() {
        says(23, "STATE: there is none.");
        due("of a new object", new BackSeat().back(), STATE);
        refusesOn(() -> row(childrenOn(PLACES, 5, 7, NONE), 0, 0, 1, 2), "back()", x -> x.back(), STATE);
    }

    private static void whatAnImageKeeps() {
        says(23, "AN IMAGE keeps THE MILE, LIMIT, NUMBERS, FRIENDS, SEATS of PASSENGERS, THE RULE");
        BackSeat x = coach(one(CHILD, 1, 4), one(TOM, 9, NONE), one(BABY, 5, 20));
        read(x, "sounds 1;turns 1;joys 1;");
        x.set(0, 0, 99);
        x.set(1, 0, 999);
        x.set(3, 0, 2);
        x.force(1);
        x.image();
        x.set(0, 0, 1);
        x.set(1, 0, 2);
        x.set(2, 0, 0);
        x.set(2, 1, 8);
        x.set(3, 0, NONE);
        x.set(3, 2, 1);
        x.sit(0, NONE);
        x.sit(1, 4);
        x.sit(2, 21);
        x.force(0);
        due("back()", x.back(), 3);
        due("THE MILE", x.told(0, 0), 99);
        due("LIMIT", x.told(0, 1), 999);
        due("NUMBER of 0", x.told(0, 2), 1);
        due("NUMBER of 1", x.told(1, 2), 9);
        due("FRIEND of 0", x.told(0, 3), 2);
        due("FRIEND of 2", x.told(2, 3), NONE);
        due("SEAT of 0", x.told(0, 5), 4);
        due("SEAT of 1", x.told(1, 5), NONE);
        due("SEAT of 2", x.told(2, 5), 20);
        due("who(4)", x.who(4), 0);
        due("who(20)", x.who(20), 2);
        due("who(21)", x.who(21), NONE);
        due("THE RULE", x.count(4), 1);
    }

    private static void whatAnImageDoesNotKeep() {
        says(23, "All that it keeps is as in THE IMAGE: how many PASSENGERS.");
        BackSeat x = row(coach(one(CHILD, 1, 4)), 0, 0, 1, 1);
        x.image();
        read(x, "sounds 1;turns 1;joys 1;");
        feed(x, "sounds 1;turns 1;");
        row(x, 1, 2, 0, 6);
        x.cell(0, 1, 9);
        due("back()", x.back(), 1);
        due("TEXTS", x.count(2), 2);
        due("force(1)", x.force(1), 0);
        due("THE TAPE", x.count(3), 17);
        feed(x, "joys 1;");
        due("THE TAPE's bytes", x.text(), 2);
        due("a SHEET that came", x.passengers(1, 2, 0, 1), 1);
        due("its item", x.told(1, 2), 6);
        due("a SHEET that was", x.passengers(0, 0, 0, 1), 1);
        due("its item is as it became", x.told(2, 2), 9);
    }

    private static void whoCameSinceGoes() {
        says(23, "(PASSENGERS that came since go).");
        BackSeat x = coach(one(CHILD, 1, 4));
        x.image();
        for (int i = 1; i < 8; i++) {
            x.passenger(TEACHER, 7);
            x.sit(i, 4 + i);
        }
        x.set(3, 0, 7);
        x.set(3, 7, 0);
        due("back()", x.back(), 1);
        due("count(0)", x.count(0), 1);
        due("count(1)", x.count(1), 1);
        due("told(1, 5)", x.told(1, 5), BAD);
        due("who(5)", x.who(5), NONE);
        due("who(11)", x.who(11), NONE);
        due("told(0, 3)", x.told(0, 3), NONE);
        due("told(0, 9)", x.told(0, 9), 0);
        for (int i = 1; i < 8; i++) {
            due("one who comes anew", x.passenger(BABY, 2), i);
        }
        due("the ninth", x.passenger(BABY, 2), FULL);
        due("stands", x.told(7, 5), NONE);
        due("has no FRIEND", x.told(7, 3), NONE);
        due("KIND", x.told(7, 4), BABY);
        due("NUMBER", x.told(7, 2), 2);
    }

    // ---- promise 24

    private static void count() {
        says(24, "How many: 0 PASSENGERS, 1 that sit, 2 TEXTS, 3 bytes of THE TAPE, 4 THE RULE. BAD.");
        long[] due = {4, 3, 2, 8, 1};
        for (int what = 0; what < 5; what++) {
            int asked = what;
            asks("count(" + what + ")", x -> x.count(asked), due[what]);
        }
        refuses("count(5)", x -> x.count(5), BAD);
        refuses("count(-1)", x -> x.count(-1), BAD);
        refuses("count(MAX)", x -> x.count(MAX), BAD);
        refuses("count(MIN)", x -> x.count(MIN), BAD);
    }

    private static void countOfNoneAndOfAll() {
        says(24, "How many: 0 PASSENGERS, 1 that sit, 2 TEXTS, 3 bytes of THE TAPE, 4 THE RULE.");
        BackSeat x = new BackSeat();
        long[] least = {0, 0, 1, 0, 0};
        for (int what = 0; what < 5; what++) {
            due("count(" + what + ") of a new object", x.count(what), least[what]);
        }
        for (int i = 0; i < 8; i++) {
            x.passenger(0, 0);
            x.sit(i, 16 + i);
        }
        for (int i = 1; i < 6; i++) {
            read(x, "sounds 1;turns 1;joys 1;");
        }
        x.force(5);
        for (int i = 0; i < 160; i++) {
            x.feed(i);
        }
        long[] most = {8, 8, 6, 160, 5};
        for (int what = 0; what < 5; what++) {
            due("count(" + what + ") of a full one", x.count(what), most[what]);
        }
        x.sit(0, NONE);
        due("count(1), one stands", x.count(1), 7);
    }
}
