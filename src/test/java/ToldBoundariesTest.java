/** The document's boundary cases of what is told: yards, tides, seeps, children, what they hear and tell. */
public final class ToldBoundariesTest {
    private static final int NONE = Due.NONE, UNKNOWN = Due.UNKNOWN, OUTSIDE = Due.OUTSIDE, NOT = Due.NOT;

    public static void main(String[] args) throws ReflectiveOperationException {
        Due.run(ToldBoundariesTest.class);
    }

    // ---- a new object

    @Says("Twelve YARDS, no SEEPS, nobody.")
    static void aNewObject() {
        DikeWatch x = new DikeWatch();
        int[] first = {12, 0, 0, 0, 0, 0, 0, 0};
        for (int what = 0; what < 8; what++) {
            Due.due("count(" + what + ")", x.count(what), first[what]);
        }
        Due.due("fill(11)", x.fill(11), 0);
        Due.due("fill(12)", x.fill(12), UNKNOWN);
        Due.due("seep(0, 0)", x.seep(0, 0), UNKNOWN);
        Due.due("child(0, 0)", x.child(0, 0), UNKNOWN);
        Due.due("where()", x.where(), 4095);
    }

    @Says("Twelve YARDS, no SEEPS, nobody.")
    static void aNewObjectHasHoursToo() {
        DikeWatch x = new DikeWatch();
        Due.due("back(0)", x.back(0), NOT);
        Due.due("back(1)", x.back(1), NOT);
        Due.due("keep(0)", x.keep(0), 0);
        Due.due("go(99)", x.go(99), 99);
        Due.due("keep(1)", x.keep(1), 99);
        Due.due("back(0)", x.back(0), 0);
        Due.due("back(1)", x.back(1), 99);
    }

    @Says("An object is used for at most 512 calls after it has been made; what later calls answer is free.")
    static void the512thCallAnswersAsTheFirst() {
        DikeWatch x = new DikeWatch();
        for (int call = 1; call < 512; call++) {
            Due.due("call " + call, x.write('x', 1), call <= 200 ? call : Due.FULL);
        }
        Due.due("call 512", x.erase(), 200);
    }

    @Says("An object is used for at most 512 calls after it has been made; what later calls answer is free.")
    static void objectsShareNothing() {
        DikeWatch x = Due.told("dike 5;tide 0 9;seep 4 50 9 0;plain 4 1 9");
        DikeWatch y = new DikeWatch();
        Due.write(x, "dry");
        x.go(3);
        x.fill(4);
        x.keep(0);
        x.seen(0, 0, 1);
        Due.same("another object's calls", Due.face(y), Due.face(new DikeWatch()));
        Due.due("back(0)", y.back(0), NOT);
    }

    // ---- tide

    @Says("TIDE by the HOUR of the day (0 .. 11). OUTSIDE.")
    static void tideOfTheFirstAndTheLastHour() {
        DikeWatch x = Due.told("tide 0 8;tide 11 9");
        Due.due("tide(0)", x.tide(0), 8);
        Due.due("tide(11)", x.tide(11), 9);
        for (int hour : new int[] {-1, 12, 23, -12, Due.LEAST, Due.MOST}) {
            Due.due("tide(" + hour + ")", x.tide(hour), OUTSIDE);
        }
    }

    @Says("TIDE is told by HOURS of the day, 0 .. 11, again and again: 0 .. 9 (0 at first).")
    static void tidesAtFirstAndToldAgain() {
        DikeWatch x = new DikeWatch();
        for (int hour = 0; hour < 12; hour++) {
            Due.due("tide(" + hour + ")", x.tide(hour), 0);
        }
        Due.tell(x, "tide 4 9");
        Due.tell(x, "tide 4 0;tide 5 9");
        Due.due("tide(4)", x.tide(4), 0);
        Due.due("tide(5)", x.tide(5), 9);
        x.go(5);
        Due.due("tide(5), whatever the HOUR is", x.tide(5), 9);
    }

    // ---- seeps

    @Says("SEEPS are 0, 1 .. as they come, 6 at most (none at first)")
    static void theFirstAndTheSixthSeep() {
        DikeWatch x = Due.told("seep 0 1 0 0;seep 1 2 1 1;seep 2 3 2 2;seep 3 4 3 3;seep 4 5 4 4;seep 11 99 9 9");
        int[][] rows = {{0, 1, 0, 0, 0}, {1, 2, 1, 1, 0}, {2, 3, 2, 2, 0}, {3, 4, 3, 3, 0}, {4, 5, 4, 4, 0}, {11, 99, 9, 9, 0}};
        for (int seep = 0; seep < 6; seep++) {
            for (int what = 0; what < 5; what++) {
                Due.due("seep(" + seep + ", " + what + ")", x.seep(seep, what), rows[seep][what]);
            }
        }
        for (int seep : new int[] {-1, 6, 7, 32, Due.LEAST, Due.MOST}) {
            Due.due("seep(" + seep + ", 0)", x.seep(seep, 0), UNKNOWN);
        }
    }

    @Says("Of a SEEP: YARD (what 0), SIZE (1), GROWTH (2), LEVEL (3), 1 FILLED, 0 (4). UNKNOWN; OUTSIDE.")
    static void whatOfASeep() {
        DikeWatch x = Due.told("seep 11 99 9 8");
        Due.due("seep(0, 4)", x.seep(0, 4), 0);
        x.fill(11);
        Due.due("seep(0, 4)", x.seep(0, 4), 1);
        for (int what : new int[] {-1, 5, Due.LEAST, Due.MOST}) {
            Due.due("seep(0, " + what + ")", x.seep(0, what), OUTSIDE);
            Due.due("seep(1, " + what + ")", x.seep(1, what), UNKNOWN);
            Due.due("seep(-1, " + what + ")", x.seep(-1, what), UNKNOWN);
        }
    }

    // ---- children

    @Says("CHILDREN are 0, 1 .. as they come, 5 at most (none at first)")
    static void theFirstAndTheFifthChild() {
        DikeWatch x = Due.told("plain 0 0 0;tired 1 1 1;hoax 2 2 2;deaf 3 3 3;plain 11 3 9");
        int[][] rows = {{0, 0, 0, 0, 0, 0, NONE}, {1, 1, 1, 1, 0, 0, NONE}, {2, 2, 2, 2, 0, 0, 2}, {3, 3, 3, 3, 0, 0, NONE},
            {0, 11, 3, 9, 0, 0, NONE}};
        for (int child = 0; child < 5; child++) {
            for (int what = 0; what < 7; what++) {
                Due.due("child(" + child + ", " + what + ")", x.child(child, what), rows[child][what]);
            }
        }
        for (int child : new int[] {-1, 5, 6, 32, Due.LEAST, Due.MOST}) {
            Due.due("child(" + child + ", 0)", x.child(child, 0), UNKNOWN);
        }
    }

    @Says("ORANGES (5), the YARD that he TELLS (6; NONE). UNKNOWN; OUTSIDE.")
    static void whatOfAChild() {
        DikeWatch x = Due.told("plain 11 3 9");
        for (int what : new int[] {-1, 7, Due.LEAST, Due.MOST}) {
            Due.due("child(0, " + what + ")", x.child(0, what), OUTSIDE);
            Due.due("child(1, " + what + ")", x.child(1, what), UNKNOWN);
            Due.due("child(-1, " + what + ")", x.child(-1, what), UNKNOWN);
        }
    }

    @Says("0 to greater YARDS, 1 to lesser (4)")
    static void heTurnsOnlyAheadOfAStep() {
        DikeWatch x = Due.told("dike 4;plain 2 1 0;plain 3 0 0;plain 3 1 0");
        Due.due("child(2, 4) at the end, told so", x.child(2, 4), 0);
        x.go(1);
        Due.due("child(0, 1) at the end", x.child(0, 1), 3);
        Due.due("child(0, 4) at the end", x.child(0, 4), 0);
        Due.due("child(1, 4), who never steps", x.child(1, 4), 0);
        Due.due("child(2, 4)", x.child(2, 4), 1);
        x.go(1);
        Due.due("child(0, 4)", x.child(0, 4), 1);
        x.go(2);
        Due.due("child(0, 1) at the other end", x.child(0, 1), 0);
        Due.due("child(0, 4) at the other end", x.child(0, 4), 1);
        x.go(1);
        Due.due("child(0, 4)", x.child(0, 4), 0);
    }

    @Says(", and his EAR reaches from his YARD to its")
    static void theEarReachesJustSoFar() {
        DikeWatch x = Due.told("dike 24;plain 12 0 9;seep 3 1 0 0;seep 2 1 0 0;seep 21 1 0 0;seep 22 1 0 0;seep 12 1 0 0");
        Due.due("as(0, 0)", x.as(0, 0), 1 | 4 | 16);
    }

    @Says(", and his EAR reaches from his YARD to its")
    static void anEarOf0ReachesHisOwnYard() {
        DikeWatch x = Due.told("plain 5 0 0;seep 4 1 0 0;seep 5 1 0 0;seep 6 1 0 0;plain 0 0 0;plain 11 0 0;seep 11 1 0 0");
        Due.due("as(0, 0)", x.as(0, 0), 2);
        Due.due("as(1, 0)", x.as(1, 0), 0);
        Due.due("as(2, 0)", x.as(2, 0), 8);
    }

    @Says("A SEEP is HEARD by a CHILD, if it is not FILLED")
    static void whatIsFilledIsNotHeardWhatIsBrokenIs() {
        DikeWatch x = Due.told("plain 5 0 1;seep 5 99 9 0;seep 6 50 0 0");
        x.go(1);
        Due.due("count(5)", x.count(5), 1);
        Due.due("as(0, 0)", x.as(0, 0), 3);
        Due.due("child(0, 6)", x.child(0, 6), 5);
        x.fill(5);
        Due.due("as(0, 0)", x.as(0, 0), 2);
        Due.due("child(0, 6)", x.child(0, 6), 6);
    }

    @Says("a TIRED one's EAR is one less for each 4 HOURS gone (cut, 0 at least)")
    static void theTiredEarIsCutByWholeFours() {
        DikeWatch x = Due.told("tired 5 0 3;plain 5 0 3;hoax 5 0 3;deaf 5 0 3");
        int[] ears = {3, 3, 3, 3, 2, 2, 2, 2, 1, 1, 1, 1, 0, 0, 0, 0, 0, 0};
        for (int hour = 0; hour < ears.length; hour++) {
            Due.due("child(0, 3) in HOUR " + hour, x.child(0, 3), ears[hour]);
            Due.due("child(1, 3) in HOUR " + hour, x.child(1, 3), 3);
            x.go(1);
        }
        Due.due("child(2, 3) as told", x.child(2, 3), 3);
        Due.due("child(3, 3) as told", x.child(3, 3), 3);
    }

    @Says("a TIRED one's EAR is one less for each 4 HOURS gone (cut, 0 at least)")
    static void theTiredEarStaysAt0() {
        DikeWatch x = Due.told("tired 5 0 9;tired 5 0 0;seep 5 1 0 0;seep 6 1 0 0");
        x.go(35);
        Due.due("child(0, 3) in HOUR 35", x.child(0, 3), 1);
        Due.due("as(0, 0) in HOUR 35", x.as(0, 0), 3);
        x.go(1);
        Due.due("child(0, 3) in HOUR 36", x.child(0, 3), 0);
        Due.due("as(0, 0) in HOUR 36", x.as(0, 0), 1);
        Due.pass(x, 9999 - 36);
        Due.due("child(0, 3) in HOUR 9999", x.child(0, 3), 0);
        Due.due("child(1, 3) in HOUR 9999", x.child(1, 3), 0);
        Due.due("as(1, 0) in HOUR 9999", x.as(1, 0), 1);
    }

    @Says("a TIRED one's EAR is one less for each 4 HOURS gone (cut, 0 at least)")
    static void hoursGoneAreThoseOfTheNight() {
        DikeWatch x = Due.told("tired 5 0 9");
        x.keep(0);
        x.go(12);
        Due.due("child(0, 3) in HOUR 12", x.child(0, 3), 6);
        x.back(0);
        Due.due("child(0, 3) in HOUR 0", x.child(0, 3), 9);
    }

    @Says("a HOAXER, a DEAF one hear none.")
    static void theyHearNotEvenWhereTheyStand() {
        DikeWatch x = Due.told("hoax 5 0 9;deaf 5 0 9;seep 5 1 0 0");
        Due.due("as(0, 0)", x.as(0, 0), 0);
        Due.due("as(1, 0)", x.as(1, 0), 0);
        Due.due("child(1, 6)", x.child(1, 6), NONE);
    }

    @Says("He TELLS the YARD of the nearest SEEP that he hears (of several the least YARD), none, if he hears none; a HOAXER his own YARD.")
    static void theNearestAndOfSeveralTheLeast() {
        DikeWatch x = Due.told("plain 5 0 2;plain 5 0 2;seep 7 1 0 0;seep 3 1 0 0;seep 6 1 0 0;seep 4 1 0 0;seep 5 1 0 0");
        Due.due("child(0, 6)", x.child(0, 6), 5);
        x.fill(5);
        Due.due("child(0, 6), 4 or 6", x.child(0, 6), 4);
        x.fill(4);
        Due.due("child(0, 6), 6 is nearer than 3", x.child(0, 6), 6);
        x.fill(6);
        Due.due("child(0, 6), 3 or 7", x.child(0, 6), 3);
        x.fill(3);
        Due.due("child(0, 6)", x.child(0, 6), 7);
        x.fill(7);
        Due.due("child(0, 6), none", x.child(0, 6), NONE);
    }

    @Says("He TELLS the YARD of the nearest SEEP that he hears (of several the least YARD), none, if he hears none; a HOAXER his own YARD.")
    static void inWhicheverOrderTheyCame() {
        DikeWatch x = Due.told("plain 5 0 3;seep 4 1 0 0;seep 6 1 0 0;seep 2 1 0 0;seep 8 1 0 0");
        Due.due("child(0, 6), 4 or 6", x.child(0, 6), 4);
        x.fill(4);
        Due.due("child(0, 6), 6 is nearer than 2", x.child(0, 6), 6);
        x.fill(6);
        Due.due("child(0, 6), 2 or 8", x.child(0, 6), 2);
    }

    @Says("He TELLS the YARD of the nearest SEEP that he hears (of several the least YARD), none, if he hears none; a HOAXER his own YARD.")
    static void aSeepInYard0IsTold() {
        DikeWatch x = Due.told("plain 1 0 1;seep 0 1 0 0;plain 2 0 1");
        Due.due("child(0, 6)", x.child(0, 6), 0);
        Due.due("child(1, 6)", x.child(1, 6), NONE);
    }

    @Says("He TELLS the YARD of the nearest SEEP that he hears (of several the least YARD), none, if he hears none; a HOAXER his own YARD.")
    static void aHoaxerTellsWhereHeIs() {
        DikeWatch x = Due.told("dike 4;hoax 3 3 0;seep 1 1 0 0");
        Due.due("child(0, 6)", x.child(0, 6), 3);
        x.go(1);
        Due.due("child(0, 6)", x.child(0, 6), 0);
        Due.tell(x, "dry");
        Due.due("child(0, 6), with no SEEPS", x.child(0, 6), 3);
    }

    // ---- kinds

    @Says("KINDS are over one another: CHILD (0); PLAIN (1) under it; TIRED (2) is PLAIN; HOAXER (3) is a CHILD; DEAF (4) is a CHILD.")
    static void eachKindTakenAsEach() {
        DikeWatch x = Due.told("plain 5 0 1;tired 5 0 1;hoax 5 0 1;deaf 5 0 1;seep 5 1 0 0");
        int[][] rows = {{1, 1, NOT, NOT, NOT}, {1, 1, 1, NOT, NOT}, {0, NOT, NOT, 0, NOT}, {0, NOT, NOT, NOT, 0}};
        for (int child = 0; child < 4; child++) {
            for (int kind = 0; kind < 5; kind++) {
                Due.due("as(" + child + ", " + kind + ")", x.as(child, kind), rows[child][kind]);
            }
        }
    }

    @Says("he answers as what he is, whatever he is taken as")
    static void aTiredOneHearsAsTired() {
        DikeWatch x = Due.told("tired 5 0 1;seep 6 1 0 0;seep 5 1 0 0");
        x.go(4);
        for (int kind = 0; kind < 3; kind++) {
            Due.due("as(0, " + kind + ")", x.as(0, kind), 2);
        }
    }

    @Says("UNKNOWN; OUTSIDE; NOT: he is none such.")
    static void noSuchChildThenNoSuchKind() {
        DikeWatch x = Due.told("deaf 5 0 1");
        for (int kind : new int[] {-1, 5, Due.LEAST, Due.MOST}) {
            Due.due("as(0, " + kind + ")", x.as(0, kind), OUTSIDE);
            Due.due("as(1, " + kind + ")", x.as(1, kind), UNKNOWN);
        }
        Due.due("as(1, 0)", x.as(1, 0), UNKNOWN);
        Due.due("as(1, 1)", x.as(1, 1), UNKNOWN);
        Due.due("as(-1, 0)", x.as(-1, 0), UNKNOWN);
        Due.due("as(0, 1)", x.as(0, 1), NOT);
    }

    // ---- count

    @Says("0 YARDS, 1 SEEPS, 2 CHILDREN, 3 HOURS, 4 SEEPS that are FILLED, by bits, 5 those that are broken, 6 SEEN, 7 bytes of THE TEXT. OUTSIDE.")
    static void countsWhenAllIsFull() {
        DikeWatch x = Due.told("dike 24;" + Due.lines("seep 0 99 1 0", 5) + ";seep 23 99 1 0;" + Due.lines("deaf 0 0 0", 5));
        Due.pass(x, 9999);
        x.fill(0);
        x.fill(23);
        for (int i = 0; i < 9; i++) {
            x.seen(0, 0, 0);
        }
        Due.write(x, "x".repeat(200));
        int[] most = {24, 6, 5, 9999, 63, 63, 9, 200};
        for (int what = 0; what < 8; what++) {
            Due.due("count(" + what + ")", x.count(what), most[what]);
        }
    }

    @Says("0 YARDS, 1 SEEPS, 2 CHILDREN, 3 HOURS, 4 SEEPS that are FILLED, by bits, 5 those that are broken, 6 SEEN, 7 bytes of THE TEXT. OUTSIDE.")
    static void whatToCount() {
        DikeWatch x = new DikeWatch();
        for (int what : new int[] {-1, 8, Due.LEAST, Due.MOST}) {
            Due.due("count(" + what + ")", x.count(what), OUTSIDE);
        }
    }

    @Says("0 YARDS, 1 SEEPS, 2 CHILDREN, 3 HOURS, 4 SEEPS that are FILLED, by bits, 5 those that are broken, 6 SEEN, 7 bytes of THE TEXT. OUTSIDE.")
    static void brokenIsAt100Only() {
        DikeWatch x = Due.told("seep 0 98 1 0;seep 1 99 1 0;seep 2 99 0 0");
        Due.due("count(5)", x.count(5), 0);
        x.go(1);
        Due.due("count(5)", x.count(5), 2);
        x.fill(1);
        Due.due("count(5), FILLED then", x.count(5), 2);
        Due.due("count(4)", x.count(4), 2);
        x.fill(0);
        x.go(1);
        Due.due("count(5)", x.count(5), 2);
    }

    // ---- what of a child, and by bits

    @Says(": of a KIND, 0 PLAIN, 1 TIRED, 2 HOAXER, 3 DEAF,")
    static void kindsByTheirNumbers() {
        DikeWatch x = Due.told("deaf 0 0 0;hoax 0 0 0;tired 0 0 0;plain 0 0 0;tired 0 0 0");
        int[] kinds = {3, 2, 1, 0, 1};
        for (int child = 0; child < 5; child++) {
            Due.due("child(" + child + ", 0)", x.child(child, 0), kinds[child]);
        }
    }

    @Says("Of a CHILD: KIND (what 0), YARD (1), PACE (2), EAR as it is now (3),")
    static void onlyATiredOnesEarChanges() {
        DikeWatch x = Due.told("plain 3 1 9;tired 4 2 8;hoax 5 3 7;deaf 6 0 6");
        x.go(8);
        int[][] rows = {{0, 11, 1, 9}, {1, 2, 2, 6}, {2, 7, 3, 7}, {3, 6, 0, 6}};
        for (int child = 0; child < 4; child++) {
            for (int what = 0; what < 4; what++) {
                Due.due("child(" + child + ", " + what + ")", x.child(child, what), rows[child][what]);
            }
        }
    }

    @Says("A CHILD taken as a KIND (0 .. 4, as they are over one another;")
    static void eachKindIsAChild() {
        DikeWatch x = Due.told("seep 0 1 0 0;plain 0 0 0;tired 0 0 0;hoax 0 0 0;deaf 0 0 0");
        for (int child = 0; child < 4; child++) {
            Due.due("as(" + child + ", 0)", x.as(child, 0), child < 2 ? 1 : 0);
            Due.due("as(" + child + ", " + (child + 1) + ")", x.as(child, child + 1), child < 2 ? 1 : 0);
            Due.due("as(" + child + ", -1)", x.as(child, -1), OUTSIDE);
            Due.due("as(" + child + ", 5)", x.as(child, 5), OUTSIDE);
        }
    }

    @Says("): SEEPS that he HEARS now, by bits.")
    static void eachSeepHasItsBit() {
        DikeWatch x = Due.told("seep 0 1 0 0;seep 2 1 0 0;seep 4 1 0 0;seep 6 1 0 0;seep 8 1 0 0;seep 10 1 0 0;plain 0 2 0");
        for (int seep = 0; seep < 6; seep++) {
            Due.due("as(0, 1) in HOUR " + seep, x.as(0, 1), 1 << seep);
            x.go(1);
        }
        Due.tell(x, "school;plain 5 0 9");
        Due.due("as(0, 1)", x.as(0, 1), 63);
    }
}
