/** The bounds of NOISE, QUEASY and GLAD, KIND by KIND (promise 5, and 10 for GLAD). */
public final class KindBoundsTest extends Bounds {
    public static void main(String[] args) {
        runAll(KindBoundsTest.class);
    }

    // ---- helpers

    /** NOISE of one of a KIND, with NUMBER 7, where sounds tells v. */
    private static long noise(int kind, String v, int seat) {
        return rule(coach(one(kind, 7, seat)), "sounds " + v + ";turns 0;joys 0;").told(0, 6);
    }

    private static long watchedNoise(int kind, String v, int seat, int teachersSeat) {
        BackSeat x = coach(one(kind, 7, seat), one(TEACHER, 7, teachersSeat));
        return rule(x, "sounds " + v + ";turns 0;joys 0;").told(0, 6);
    }

    private static long queasy(int kind, String v, int seat) {
        return rule(coach(one(kind, 7, seat)), "sounds 0;turns " + v + ";joys 0;").told(0, 7);
    }

    private static long glad(int kind, String v, int seat) {
        return rule(coach(one(kind, 7, seat)), "sounds 0;turns 0;joys " + v + ";").all(1);
    }

    /** GLAD of one whose FRIEND is on a SEAT; the FRIEND is a BABY, GLAD by 3 wherever it sits. */
    private static long gladByFriend(int kind, String v, int seat, int friendsSeat) {
        BackSeat x = coach(one(kind, 7, seat), one(BABY, 7, friendsSeat));
        x.set(3, 0, 1);
        return rule(x, "sounds 0;turns 0;joys " + v + ";").all(1) - (friendsSeat == NONE ? 0 : 3);
    }

    // ---- NOISE

    private static void noiseOfAChild() {
        says(5, "NOISE (sounds telling v, in ROW r; WATCHED: a TEACHER is BESIDE): CHILD: v");
        due("v 0", noise(CHILD, "0", 8), 0);
        due("v 1", noise(CHILD, "1", 8), 1);
        due("v 99, in the REAR", noise(CHILD, "99", 20), 99);
        due("v 99, WATCHED", watchedNoise(CHILD, "99", 8, 9), 99);
    }

    private static void noiseOfALoud() {
        says(5, "LOUD: twice a CHILD's, NUMBER more in the REAR");
        due("v 0, ROW 4", noise(LOUD, "0", 19), 0);
        due("v 11, ROW 4", noise(LOUD, "11", 19), 22);
        due("v 11, ROW 0", noise(LOUD, "11", 0), 22);
        due("v 0, the REAR", noise(LOUD, "0", 20), 7);
        due("v 11, the REAR", noise(LOUD, "11", 23), 29);
        due("v 99, the REAR", noise(LOUD, "99", 20), 205);
        due("WATCHED", watchedNoise(LOUD, "11", 20, 21), 29);
    }

    private static void noiseOfASickly() {
        says(5, "SICKLY: half (cut) of a CHILD's");
        due("v 0", noise(SICKLY, "0", 8), 0);
        due("v 1", noise(SICKLY, "1", 8), 0);
        due("v 2", noise(SICKLY, "2", 8), 1);
        due("v 3, the REAR", noise(SICKLY, "3", 20), 1);
        due("v 99", noise(SICKLY, "99", 8), 49);
    }

    private static void noiseOfATom() {
        says(5, "TOM: 0, if WATCHED, else 5 more than a LOUD");
        due("v 0", noise(TOM, "0", 8), 5);
        due("v 11, ROW 4", noise(TOM, "11", 19), 27);
        due("v 11, the REAR", noise(TOM, "11", 20), 34);
        due("WATCHED", watchedNoise(TOM, "11", 8, 9), 0);
        due("WATCHED in the REAR", watchedNoise(TOM, "11", 20, 21), 0);
        due("WATCHED across the middle of the REAR", watchedNoise(TOM, "11", 22, 21), 0);
        due("not WATCHED across the middle of ROW 4", watchedNoise(TOM, "11", 18, 17), 27);
        due("not WATCHED from the ROW behind", watchedNoise(TOM, "11", 8, 12), 27);
        due("not WATCHED by one who stands", watchedNoise(TOM, "11", 8, NONE), 27);
    }

    private static void noiseOfABaby() {
        says(5, "BABY: NUMBER more than a SICKLY");
        due("v 0", noise(BABY, "0", 8), 7);
        due("v 1", noise(BABY, "1", 8), 7);
        due("v 2", noise(BABY, "2", 8), 8);
        due("v 99, the REAR", noise(BABY, "99", 20), 56);
    }

    private static void noiseOfATeacher() {
        says(5, "BABY: NUMBER more than a SICKLY; TEACHER: 0. QUEASY");
        due("v 99", noise(TEACHER, "99", 8), 0);
        due("v 99, the REAR", noise(TEACHER, "99", 20), 0);
    }

    private static void watchedByATeacherBeside() {
        says(5, "WATCHED: a TEACHER is BESIDE");
        BackSeat x = coach(one(TOM, 0, 21), one(CHILD, 0, 20), one(CHILD, 0, 22), one(TEACHER, 0, 23));
        due("told(0, 9), others BESIDE", x.told(0, 9), 0);
        x.sit(2, NONE);
        x.sit(3, 22);
        due("told(0, 9), the TEACHER BESIDE", x.told(0, 9), 1);
        x.sit(1, NONE);
        x.sit(3, 20);
        due("told(0, 9), on the other side", x.told(0, 9), 1);
        x.sit(3, NONE);
        due("told(0, 9), nobody BESIDE", x.told(0, 9), 0);
        BackSeat y = coach(one(TEACHER, 0, 0), one(TEACHER, 0, 1));
        due("told(0, 9), a TEACHER by a TEACHER", y.told(0, 9), 1);
    }

    // ---- QUEASY

    private static void queasyOfAChild() {
        says(5, "QUEASY (a MILE, turns telling v, in ROW r): CHILD: v");
        due("v 0", queasy(CHILD, "0", 20), 0);
        due("v 1", queasy(CHILD, "1", 20), 1);
        due("v 99", queasy(CHILD, "99", 20), 99);
    }

    private static void queasyOfALoud() {
        says(5, "CHILD: v; LOUD: as a CHILD; SICKLY: r more than twice");
        due("v 0", queasy(LOUD, "0", 20), 0);
        due("v 7, ROW 0", queasy(LOUD, "7", 0), 7);
        due("v 99, the REAR", queasy(LOUD, "99", 20), 99);
    }

    private static void queasyOfASickly() {
        says(5, "SICKLY: r more than twice a CHILD's");
        due("v 0, ROW 0", queasy(SICKLY, "0", 3), 0);
        due("v 7, ROW 0", queasy(SICKLY, "7", 3), 14);
        due("v 7, ROW 1", queasy(SICKLY, "7", 4), 15);
        due("v 0, the REAR", queasy(SICKLY, "0", 23), 5);
        due("v 7, the REAR", queasy(SICKLY, "7", 20), 19);
    }

    private static void queasyOfATom() {
        says(5, "TOM: 0, if r is 5, else as a LOUD");
        due("v 7, ROW 4", queasy(TOM, "7", 19), 7);
        due("v 7, ROW 5", queasy(TOM, "7", 20), 0);
        due("v 99, ROW 5", queasy(TOM, "99", 23), 0);
        due("v 7, ROW 0", queasy(TOM, "7", 0), 7);
    }

    private static void queasyOfABaby() {
        says(5, "BABY: half (cut) of a SICKLY's");
        due("v 0, ROW 0", queasy(BABY, "0", 0), 0);
        due("v 0, ROW 1", queasy(BABY, "0", 4), 0);
        due("v 0, ROW 2", queasy(BABY, "0", 8), 1);
        due("v 7, ROW 4", queasy(BABY, "7", 16), 9);
        due("v 7, the REAR", queasy(BABY, "7", 20), 9);
        due("v 8, the REAR", queasy(BABY, "8", 20), 10);
    }

    private static void queasyOfATeacher() {
        says(5, "BABY: half (cut) of a SICKLY's; TEACHER: 0. GLAD");
        due("v 99", queasy(TEACHER, "99", 0), 0);
        due("v 99, the REAR", queasy(TEACHER, "99", 20), 0);
    }

    // ---- GLAD

    private static void gladOfAChild() {
        says(10, "GLAD (joys telling v; a FRIEND being BESIDE or not): CHILD: 10 more than v, if so, else v");
        due("v 0", glad(CHILD, "0", 20), 0);
        due("v 7", glad(CHILD, "7", 20), 7);
        due("v -7", glad(CHILD, "-7", 20), -7);
        due("FRIEND BESIDE", gladByFriend(CHILD, "7", 8, 9), 17);
        due("FRIEND BESIDE across the middle of the REAR", gladByFriend(CHILD, "7", 21, 22), 17);
        due("FRIEND across the middle of ROW 4", gladByFriend(CHILD, "7", 17, 18), 7);
        due("FRIEND behind", gladByFriend(CHILD, "7", 8, 12), 7);
        due("FRIEND stands", gladByFriend(CHILD, "7", 8, NONE), 7);
    }

    private static void aFriendIsOnesOwn() {
        says(10, "a FRIEND being BESIDE or not");
        BackSeat x = coach(one(CHILD, 0, 8), one(CHILD, 0, 9), one(CHILD, 0, NONE));
        x.set(3, 1, 0);
        due("all(1), the other's FRIEND", x.all(1), 2 + 10);
        x.set(3, 0, 1);
        due("all(1), each other's", x.all(1), 2 + 20);
        x.set(3, 0, 2);
        due("all(1), one's FRIEND stands, another sits BESIDE", x.all(1), 2 + 10);
        x.set(3, 1, NONE);
        due("all(1), no FRIENDS", x.all(1), 2);
    }

    private static void gladOfALoud() {
        says(10, "LOUD: as a CHILD, 5 more, if r is 5");
        due("v 7, ROW 4", glad(LOUD, "7", 19), 7);
        due("v 7, ROW 5", glad(LOUD, "7", 20), 12);
        due("v 7, ROW 4, FRIEND BESIDE", gladByFriend(LOUD, "7", 18, 19), 17);
        due("v 7, ROW 5, FRIEND BESIDE", gladByFriend(LOUD, "7", 20, 21), 22);
    }

    private static void gladOfASickly() {
        says(10, "SICKLY: as a CHILD, r less");
        due("v 7, ROW 0", glad(SICKLY, "7", 0), 7);
        due("v 7, ROW 1", glad(SICKLY, "7", 4), 6);
        due("v 7, ROW 5", glad(SICKLY, "7", 20), 2);
        due("v 0, ROW 5", glad(SICKLY, "0", 20), -5);
        due("v 7, ROW 5, FRIEND BESIDE", gladByFriend(SICKLY, "7", 20, 21), 12);
    }

    private static void gladOfATom() {
        says(10, "TOM: twice a LOUD's");
        due("v 7, ROW 4", glad(TOM, "7", 19), 14);
        due("v 7, ROW 5", glad(TOM, "7", 20), 24);
        due("v -99, ROW 4", glad(TOM, "-99", 19), -198);
        due("v 99, ROW 5, FRIEND BESIDE", gladByFriend(TOM, "99", 20, 21), 228);
    }

    private static void gladOfABaby() {
        says(10, "BABY: 3; TEACHER");
        due("v 0", glad(BABY, "0", 0), 3);
        due("v -99, ROW 5", glad(BABY, "-99", 20), 3);
        due("v 99, FRIEND BESIDE", gladByFriend(BABY, "99", 0, 1), 3);
    }

    private static void gladOfATeacher() {
        says(10, "TEACHER: 0 less v.");
        due("v 0", glad(TEACHER, "0", 0), 0);
        due("v 7", glad(TEACHER, "7", 20), -7);
        due("v -99", glad(TEACHER, "-99", 0), 99);
        due("v 99, FRIEND BESIDE", gladByFriend(TEACHER, "99", 0, 1), -99);
    }

    // ---- bounds

    private static void soundsIsBounded() {
        says(5, "sounds, turns (0 .. 99, else the bound)");
        due("sounds 99", noise(CHILD, "99", 0), 99);
        due("sounds 100", noise(CHILD, "100", 0), 99);
        due("sounds 9999", noise(CHILD, "9999", 0), 99);
        due("sounds 9999, of a LOUD", noise(LOUD, "9999", 0), 198);
        due("sounds 0", noise(CHILD, "0", 0), 0);
        due("sounds -1", noise(CHILD, "-1", 0), 0);
        due("sounds -1, of a LOUD", noise(LOUD, "-1", 0), 0);
        due("sounds -9999, of a BABY", noise(BABY, "-9999", 0), 7);
        due("turns 99", queasy(CHILD, "99", 0), 99);
        due("turns 100", queasy(CHILD, "100", 0), 99);
        due("turns -1", queasy(CHILD, "-1", 0), 0);
        due("turns -9999, of a SICKLY in ROW 5", queasy(SICKLY, "-9999", 20), 5);
        due("turns 9999, of a BABY", queasy(BABY, "9999", 0), 99);
    }

    private static void joysIsBounded() {
        says(10, "joys (-99 .. 99, else the bound).");
        due("joys 99", glad(CHILD, "99", 0), 99);
        due("joys 100", glad(CHILD, "100", 0), 99);
        due("joys -99", glad(CHILD, "-99", 0), -99);
        due("joys -100", glad(CHILD, "-100", 0), -99);
        due("joys 9999, of a TOM", glad(TOM, "9999", 0), 198);
        due("joys -9999, of a TEACHER", glad(TEACHER, "-9999", 0), 99);
        due("joys 100, FRIEND BESIDE: GLAD has no bound", gladByFriend(CHILD, "100", 0, 1), 109);
    }

    private static void noiseIsBounded() {
        says(5, "(NOISE 0 .. 999");
        BackSeat x = coach(one(TOM, 9, 23));
        rule(x, "sounds 99;turns 0;joys 0;");
        due("the most that can be", x.told(0, 6), 212);
        rule(x, "sounds 0;turns 0;joys 0;");
        due("of a TOM the least", x.told(0, 6), 14);
        due("the least that can be", noise(CHILD, "0", 0), 0);
    }

    /** The bound holds for what comes out: a BABY's is half of what a SICKLY's is before it. */
    private static void queasyIsBounded() {
        says(5, "QUEASY 0 .. 99, else the bound.)");
        due("a SICKLY: 99", queasy(SICKLY, "47", 20), 99);
        due("a SICKLY: 100", queasy(SICKLY, "48", 16), 99);
        due("a SICKLY: 98", queasy(SICKLY, "48", 8), 98);
        due("a SICKLY: 203", queasy(SICKLY, "99", 20), 99);
        due("a BABY: half of 199", queasy(BABY, "99", 4), 99);
        due("a BABY: half of 200", queasy(BABY, "99", 8), 99);
        due("a BABY: half of 197", queasy(BABY, "98", 4), 98);
        due("a BABY: half of 123", queasy(BABY, "60", 12), 61);
        due("a BABY: half of 203", queasy(BABY, "99", 20), 99);
    }

    /** All quotients of the document are of numbers from 0 on, so cut is down. */
    private static void quotientsAreCut() {
        says(5, "Quotients are cut toward 0.");
        due("a SICKLY's NOISE of 1", noise(SICKLY, "1", 0), 0);
        due("a SICKLY's NOISE of 9", noise(SICKLY, "9", 0), 4);
        due("a BABY's QUEASY of 5", queasy(BABY, "0", 20), 2);
        due("the ROW of SEAT 3", noise(CHILD, "row", 3), 0);
        due("the ROW of SEAT 23", noise(CHILD, "row", 23), 5);
    }

    private static void whoStandsIsNeither() {
        says(5, "Who stands is neither loud, nor queasy, nor glad (0).");
        for (int kind = 0; kind <= 5; kind++) {
            String where = "of KIND " + kind + ", who stands";
            due("NOISE " + where, noise(kind, "50", NONE), 0);
            due("QUEASY " + where, queasy(kind, "50", NONE), 0);
            due("GLAD " + where, glad(kind, "50", NONE), 0);
            BackSeat x = coach(one(kind, 0, NONE));
            due("BESIDE " + where, x.told(0, 8), 0);
            due("WATCHED " + where, x.told(0, 9), 0);
        }
    }

    private static void twoWhoStandAreNotBeside() {
        says(5, "Who stands is neither loud, nor queasy, nor glad (0).");
        BackSeat x = coach(one(CHILD, 0, NONE), one(TEACHER, 0, NONE));
        x.set(3, 0, 1);
        due("told(0, 8)", x.told(0, 8), 0);
        due("told(0, 9)", x.told(0, 9), 0);
        due("all(1)", x.all(1), 0);
    }
}
