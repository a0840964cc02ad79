/** The document's boundary cases of what is foretold: later, breaks, missed, watch, order, storms, guard. */
public final class ForetoldBoundariesTest {
    private static final int NONE = Due.NONE, UNKNOWN = Due.UNKNOWN, OUTSIDE = Due.OUTSIDE, NOT = Due.NOT;

    public static void main(String[] args) throws ReflectiveOperationException {
        Due.run(ForetoldBoundariesTest.class);
    }

    @Says("FORETOLD from now, if nothing is FILLED (nothing changes).")
    static void nothingChanges() {
        DikeWatch x = Due.told("dike 6;tide 0 5;seep 1 40 9 4;seep 4 90 5 0;plain 0 1 2;tired 5 2 9;hoax 2 1 3");
        x.go(3);
        x.keep(0);
        x.go(1);
        String now = Due.face(x);
        x.later(0, 99, 0);
        x.later(1, 99, 1);
        x.later(1, 99, 2);
        x.breaks(0);
        x.missed(7);
        x.watch(1);
        x.order(5, 3, 0);
        x.storms(0, 18, 9, 0);
        x.guard(9, 1);
        Due.same("what is foretold", Due.face(x), now);
        Due.due("back(0)", x.back(0), 3);
    }

    // ---- later

    @Says("LATER: SIZE of a SEEP, the YARD of a CHILD in t HOURS (0 .. 99), SEEPS that he HEARS then.")
    static void laterInNoHourIsNow() {
        DikeWatch x = Due.told("seep 5 50 1 0;plain 4 1 1");
        x.go(1);
        Due.due("later(0, 0, 0)", x.later(0, 0, 0), 51);
        Due.due("later(0, 0, 1)", x.later(0, 0, 1), 5);
        Due.due("later(0, 0, 2)", x.later(0, 0, 2), 1);
    }

    @Says("LATER: SIZE of a SEEP, the YARD of a CHILD in t HOURS (0 .. 99), SEEPS that he HEARS then.")
    static void laterIn99Hours() {
        DikeWatch x = Due.told("dike 24;tide 3 1;seep 5 90 1 1;seep 7 1 1 0;plain 0 1 0;deaf 0 0 9");
        Due.due("later(0, 98, 0): in 8 days", x.later(0, 98, 0), 98);
        Due.due("later(0, 99, 0): in 8 days", x.later(0, 99, 0), 98);
        Due.due("later(1, 98, 0)", x.later(1, 98, 0), 99);
        Due.due("later(1, 99, 0)", x.later(1, 99, 0), 100);
        Due.due("later(0, 99, 1): 92 is two rounds", x.later(0, 99, 1), 7);
        Due.due("later(0, 99, 2)", x.later(0, 99, 2), 2);
        Due.due("later(1, 99, 1)", x.later(1, 99, 1), 0);
        Due.due("later(1, 99, 2)", x.later(1, 99, 2), 0);
    }

    @Says("LATER: SIZE of a SEEP, the YARD of a CHILD in t HOURS (0 .. 99), SEEPS that he HEARS then.")
    static void laterTheTiredEarIsLess() {
        DikeWatch x = Due.told("tired 5 0 2;seep 5 1 0 0;seep 6 1 0 0;seep 7 1 0 0");
        x.go(2);
        int[] heard = {7, 7, 3, 3, 3, 3, 1, 1, 1, 1, 1};
        for (int t = 0; t < heard.length; t++) {
            Due.due("later(0, " + t + ", 2)", x.later(0, t, 2), heard[t]);
        }
    }

    @Says("LATER: SIZE of a SEEP, the YARD of a CHILD in t HOURS (0 .. 99), SEEPS that he HEARS then.")
    static void laterBrokenOnesAreHeardFilledOnesNot() {
        DikeWatch x = Due.told("plain 5 0 0;seep 5 99 1 0;seep 4 50 9 0");
        Due.due("later(0, 1, 0)", x.later(0, 1, 0), 100);
        Due.due("later(0, 1, 2)", x.later(0, 1, 2), 1);
        x.fill(5);
        x.fill(4);
        Due.due("later(0, 1, 0)", x.later(0, 1, 0), 99);
        Due.due("later(1, 99, 0)", x.later(1, 99, 0), 50);
        Due.due("later(0, 1, 2)", x.later(0, 1, 2), 0);
    }

    @Says("LATER: SIZE of a SEEP, the YARD of a CHILD in t HOURS (0 .. 99), SEEPS that he HEARS then.")
    static void laterThanTheLastHour() {
        DikeWatch x = Due.told("dike 24;tide 3 9;seep 0 1 0 0;plain 0 1 0;tired 0 0 9");
        Due.pass(x, 9999);
        Due.due("child(0, 1): 9999 is 217 rounds and 17", x.child(0, 1), 17);
        Due.due("later(0, 6, 1)", x.later(0, 6, 1), 23);
        Due.due("later(0, 99, 1)", x.later(0, 99, 1), 22);
        Due.due("later(1, 99, 2)", x.later(1, 99, 2), 1);
        Due.due("count(3)", x.count(3), 9999);
    }

    @Says("OUTSIDE: what; UNKNOWN; OUTSIDE: t.")
    static void laterWhatComesAheadOfWhichAndWhichAheadOfT() {
        DikeWatch x = Due.told("seep 0 1 0 0;seep 0 1 0 0;plain 0 0 0");
        for (int what : new int[] {-1, 3, Due.LEAST, Due.MOST}) {
            Due.due("later(0, 0, " + what + ")", x.later(0, 0, what), OUTSIDE);
            Due.due("later(9, 0, " + what + ")", x.later(9, 0, what), OUTSIDE);
            Due.due("later(9, 100, " + what + ")", x.later(9, 100, what), OUTSIDE);
        }
        for (int t : new int[] {-1, 100, Due.LEAST, Due.MOST}) {
            for (int what = 0; what < 3; what++) {
                Due.due("later(0, " + t + ", " + what + ")", x.later(0, t, what), OUTSIDE);
                Due.due("later(2, " + t + ", " + what + ")", x.later(2, t, what), UNKNOWN);
                Due.due("later(-1, " + t + ", " + what + ")", x.later(-1, t, what), UNKNOWN);
            }
        }
        Due.due("later(1, 0, 0), a SEEP", x.later(1, 0, 0), 1);
        Due.due("later(1, 0, 1), no CHILD", x.later(1, 0, 1), UNKNOWN);
        Due.due("later(1, 0, 2), no CHILD", x.later(1, 0, 2), UNKNOWN);
    }

    // ---- breaks

    @Says("BREAKS: in how many HOURS (0 .. 999) a SEEP is at 100; none.")
    static void brokenNowIsIn0Hours() {
        DikeWatch x = Due.told("seep 0 99 1 0;seep 0 99 9 0;seep 0 91 9 0;seep 0 90 9 0");
        int[] ahead = {1, 1, 1, 2};
        for (int seep = 0; seep < 4; seep++) {
            Due.due("breaks(" + seep + ")", x.breaks(seep), ahead[seep]);
        }
        x.go(1);
        Due.due("breaks(0)", x.breaks(0), 0);
        Due.due("breaks(3)", x.breaks(3), 1);
        x.go(99);
        Due.due("breaks(0)", x.breaks(0), 0);
    }

    @Says("BREAKS: in how many HOURS (0 .. 999) a SEEP is at 100; none.")
    static void in999HoursAtMost() {
        DikeWatch x = Due.told("tide 2 9;tide 3 8;seep 0 16 1 9;seep 0 15 1 9;seep 0 1 1 9");
        Due.due("breaks(0): in 83 days and 3", x.breaks(0), 999);
        Due.due("breaks(1): in 84 days and 3", x.breaks(1), NONE);
        Due.due("breaks(2): in 98 days and 3", x.breaks(2), NONE);
        Due.tell(x, "tide 2 8;tide 3 9");
        Due.due("breaks(0): in 83 days and 4", x.breaks(0), NONE);
        x.go(1);
        Due.due("breaks(0): in 83 days and 3", x.breaks(0), 999);
    }

    @Says("BREAKS: in how many HOURS (0 .. 999) a SEEP is at 100; none.")
    static void whatNeverBreaks() {
        DikeWatch x = Due.told("tide 5 8;seep 0 99 0 0;seep 0 99 9 9;seep 0 99 9 8");
        Due.due("breaks(0), no GROWTH", x.breaks(0), NONE);
        Due.due("breaks(1), no such TIDE", x.breaks(1), NONE);
        Due.due("breaks(2)", x.breaks(2), 6);
    }

    @Says("BREAKS; NONE. UNKNOWN; NOT: it is FILLED.")
    static void whatIsFilledIsNotAskedFor() {
        DikeWatch x = Due.told("seep 0 99 1 0;seep 1 50 0 0");
        for (int seep : new int[] {-1, 2, 6, Due.LEAST, Due.MOST}) {
            Due.due("breaks(" + seep + ")", x.breaks(seep), UNKNOWN);
        }
        x.go(1);
        x.fill(0);
        x.fill(1);
        Due.due("breaks(0), broken too", x.breaks(0), NOT);
        Due.due("breaks(1)", x.breaks(1), NOT);
        Due.due("breaks(2)", x.breaks(2), UNKNOWN);
    }

    // ---- missed

    @Says("MISSED by a set of CHILDREN: SEEPS that are neither FILLED nor broken now,")
    static void neitherFilledNorBrokenNow() {
        DikeWatch x = Due.told("seep 0 99 1 0;seep 1 98 1 0;seep 2 98 1 0");
        Due.due("missed(0)", x.missed(0), 7);
        x.go(1);
        Due.due("missed(0), one is broken", x.missed(0), 6);
        x.fill(1);
        Due.due("missed(0), one is FILLED", x.missed(0), 4);
        x.go(1);
        Due.due("missed(0), none is left", x.missed(0), 0);
        Due.due("watch(0)", x.watch(0), 0);
    }

    @Says("will BREAK, and")
    static void whatDoesNotBreakIsNotMissed() {
        DikeWatch x = Due.told("tide 2 8;seep 0 99 0 0;seep 0 99 9 9;seep 0 16 1 8;seep 0 15 1 8");
        Due.due("missed(0): the third, in 999 HOURS", x.missed(0), 4);
        Due.due("watch(0)", x.watch(0), NONE);
        x.go(12);
        Due.due("missed(0): the fourth too, in 999 HOURS", x.missed(0), 12);
    }

    @Says("that none of the set HEARS ahead of it (now, in 1 HOUR, ..; when it is broken it is too late).")
    static void heardNowIsInTime() {
        DikeWatch x = Due.told("seep 5 99 1 0;plain 5 3 0;plain 6 0 0;plain 4 1 0");
        Due.due("missed(1)", x.missed(1), 0);
        Due.due("missed(2), who never hears it", x.missed(2), 1);
        Due.due("missed(4), there as it breaks", x.missed(4), 1);
        Due.due("missed(7)", x.missed(7), 0);
    }

    @Says("that none of the set HEARS ahead of it (now, in 1 HOUR, ..; when it is broken it is too late).")
    static void heardInTheLastHourIsInTime() {
        DikeWatch x = Due.told("seep 9 96 1 0;plain 6 1 0;plain 5 1 0;plain 0 3 0;plain 1 2 0");
        Due.due("missed(1), there in 3", x.missed(1), 0);
        Due.due("missed(2), there in 4", x.missed(2), 1);
        Due.due("missed(4), there in 3", x.missed(4), 0);
        Due.due("missed(8), there in 4", x.missed(8), 1);
    }

    @Says("that none of the set HEARS ahead of it (now, in 1 HOUR, ..; when it is broken it is too late).")
    static void heardOnTheWayBack() {
        DikeWatch x = Due.told("dike 24;tide 5 9;seep 0 91 1 9;plain 1 1 0;plain 1 2 0;plain 2 0 0;tired 1 1 1");
        Due.due("missed(1), there in 45", x.missed(1), 0);
        Due.due("missed(2), at an odd YARD when an HOUR ends", x.missed(2), 1);
        Due.due("missed(4)", x.missed(4), 1);
        Due.due("missed(8), who hears it now", x.missed(8), 0);
    }

    @Says("that none of the set HEARS ahead of it (now, in 1 HOUR, ..; when it is broken it is too late).")
    static void theLongestWayRound() {
        DikeWatch x = Due.told("dike 24;tide 8 9;seep 22 96 1 9;seep 22 97 1 9;plain 23 1 0;plain 21 3 0");
        x.go(1);
        Due.due("child(0, 1)", x.child(0, 1), 22);
        x.go(1);
        Due.due("breaks(0)", x.breaks(0), 43);
        Due.due("breaks(1)", x.breaks(1), 31);
        Due.due("missed(1): at 22 again in 43, as the first breaks", x.missed(1), 3);
        Due.tell(x, "dry;seep 22 95 1 9");
        x.go(2);
        Due.due("breaks(0)", x.breaks(0), 55);
        Due.due("missed(1): at 22 again in 43", x.missed(1), 0);
    }

    @Says("that none of the set HEARS ahead of it (now, in 1 HOUR, ..; when it is broken it is too late).")
    static void aTiredEarMayBeTooLate() {
        DikeWatch x = Due.told("tide 11 1;seep 9 99 1 1;tired 3 1 2;tired 3 0 6;tired 3 0 5;tired 1 1 2;tired 2 1 2");
        Due.due("missed(1): at 7 in 4 with an EAR of 1, at 8 in 5", x.missed(1), 0);
        Due.due("missed(2): now", x.missed(2), 0);
        Due.due("missed(4): never", x.missed(4), 1);
        Due.due("missed(8): at 9 in 8 with an EAR of 0", x.missed(8), 0);
        Due.due("missed(16): at 8 in 6 with an EAR of 1", x.missed(16), 0);
    }

    @Says("that none of the set HEARS ahead of it (now, in 1 HOUR, ..; when it is broken it is too late).")
    static void tooLateForOneInTimeForAnother() {
        DikeWatch x = Due.told("seep 3 98 1 0;seep 2 98 1 0;seep 11 50 1 0;plain 1 1 0;plain 9 0 3");
        Due.due("missed(1): at 2 in 1, at 3 in 2, at 11 in 10", x.missed(1), 1);
        Due.due("missed(2): 11 now", x.missed(2), 3);
        Due.due("missed(3)", x.missed(3), 1);
        Due.due("watch(0)", x.watch(0), NONE);
        x.fill(3);
        Due.due("watch(1)", x.watch(1), 1);
    }

    @Says("MISSED, by bits. UNKNOWN.")
    static void setsOfChildren() {
        DikeWatch x = Due.told("seep 5 99 1 0;seep 6 99 1 0;plain 5 0 0;plain 6 0 0;hoax 5 0 9;deaf 6 0 9;plain 0 0 9");
        Due.due("missed(0)", x.missed(0), 3);
        Due.due("missed(1)", x.missed(1), 2);
        Due.due("missed(2)", x.missed(2), 1);
        Due.due("missed(3)", x.missed(3), 0);
        Due.due("missed(12)", x.missed(12), 3);
        Due.due("missed(16)", x.missed(16), 0);
        Due.due("missed(31)", x.missed(31), 0);
        for (int set : new int[] {32, 33, 64, -1, 1 << 30, Due.LEAST, Due.MOST}) {
            Due.due("missed(" + set + ")", x.missed(set), UNKNOWN);
        }
        Due.tell(x, "school");
        Due.due("missed(0), with nobody", x.missed(0), 3);
        Due.due("missed(1), with nobody", x.missed(1), UNKNOWN);
    }

    // ---- watch

    @Says("WATCH: the fewest CHILDREN by whom none is MISSED; of several sets the least; none.")
    static void nobodyAndAllAreNeeded() {
        DikeWatch x = Due.told("seep 1 50 0 0;plain 1 0 0");
        Due.due("watch(0), none breaks", x.watch(0), 0);
        Due.due("watch(1), none breaks", x.watch(1), 0);
        x = Due.told("seep 0 9 1 0;seep 2 9 1 0;seep 4 9 1 0;seep 6 9 1 0;seep 8 9 1 0;plain 0 0 0;plain 2 0 0;plain 4 0 0;plain 6 0 0;plain 8 0 0");
        Due.due("watch(0)", x.watch(0), 5);
        Due.due("watch(1)", x.watch(1), 31);
        x.fill(0);
        Due.due("watch(0)", x.watch(0), 4);
        Due.due("watch(1)", x.watch(1), 30);
    }

    @Says("WATCH: the fewest CHILDREN by whom none is MISSED; of several sets the least; none.")
    static void oneForTwoAndOfSeveralTheLeast() {
        DikeWatch x = Due.told("seep 4 9 1 0;seep 6 9 1 0;plain 4 0 0;plain 6 0 0;plain 5 0 0;plain 5 0 1;plain 6 0 2");
        Due.due("watch(0): one is fewer than 0 and 1", x.watch(0), 1);
        Due.due("watch(1): 3 and 4 can", x.watch(1), 8);
        x = Due.told("seep 4 9 1 0;seep 6 9 1 0;plain 6 0 0;plain 6 0 0;plain 4 0 0;plain 4 0 0");
        Due.due("watch(0)", x.watch(0), 2);
        Due.due("watch(1): 5 of 5, 6, 9, 10", x.watch(1), 5);
    }

    @Says("WATCH: how many (what 0), the set (1); NONE. OUTSIDE.")
    static void noSetIsEnough() {
        DikeWatch x = Due.told("seep 4 9 1 0;seep 6 9 1 0;plain 4 0 0;hoax 6 0 9;deaf 6 0 9");
        Due.due("watch(0)", x.watch(0), NONE);
        Due.due("watch(1)", x.watch(1), NONE);
        Due.tell(x, "school");
        Due.due("watch(0), with nobody", x.watch(0), NONE);
        Due.due("watch(1), with nobody", x.watch(1), NONE);
        Due.tell(x, "dry");
        Due.due("watch(0), with nothing", x.watch(0), 0);
        Due.due("watch(1), with nothing", x.watch(1), 0);
    }

    @Says("WATCH: how many (what 0), the set (1); NONE. OUTSIDE.")
    static void whatOfAWatch() {
        DikeWatch x = new DikeWatch();
        for (int what : new int[] {-1, 2, Due.LEAST, Due.MOST}) {
            Due.due("watch(" + what + ")", x.watch(what), OUTSIDE);
        }
    }

    // ---- order

    @Says("they go a YARD in an HOUR, and FILL one in 1 HOUR more: a SEEP is LOST, if it is broken when it would be FILLED")
    static void lostIfItBreaksInTheHourOfItsFill() {
        DikeWatch x = Due.told("seep 5 99 1 0;seep 5 98 1 0;seep 8 97 1 0;seep 2 95 1 0;seep 2 96 1 0");
        Due.due("0 from 5: FILLED in 1, broken in 1", x.order(5, 1, NONE), 1);
        Due.due("1 from 5: FILLED in 1, broken in 2", x.order(5, 2, NONE), 0);
        Due.due("1 from 6: FILLED in 2, broken in 2", x.order(6, 2, NONE), 1);
        Due.due("2 from 7: FILLED in 2, broken in 3", x.order(7, 4, NONE), 0);
        Due.due("2 from 6: FILLED in 3, broken in 3", x.order(6, 4, NONE), 1);
        Due.due("3 from 5: FILLED in 4, broken in 5", x.order(5, 8, NONE), 0);
        Due.due("4 from 5: FILLED in 4, broken in 4", x.order(5, 16, NONE), 1);
    }

    @Says("they go a YARD in an HOUR, and FILL one in 1 HOUR more: a SEEP is LOST, if it is broken when it would be FILLED")
    static void fromEndToEnd() {
        DikeWatch x = Due.told("dike 24;seep 23 75 1 0;seep 23 76 1 0;seep 0 75 1 0;seep 0 76 1 0");
        Due.due("0 from 0: FILLED in 24, broken in 25", x.order(0, 1, NONE), 0);
        Due.due("1 from 0: FILLED in 24, broken in 24", x.order(0, 2, NONE), 1);
        Due.due("2 from 23: FILLED in 24, broken in 25", x.order(23, 4, NONE), 0);
        Due.due("3 from 23: FILLED in 24, broken in 24", x.order(23, 8, NONE), 1);
    }

    @Says("they go a YARD in an HOUR, and FILL one in 1 HOUR more: a SEEP is LOST, if it is broken when it would be FILLED")
    static void twoAtOneYardTakeTwoHours() {
        DikeWatch x = Due.told("seep 5 98 1 0;seep 5 98 1 0;seep 5 97 1 0");
        Due.due("both break in 2", x.order(5, 3, NONE), 1);
        Due.due("in 2 and in 3", x.order(5, 5, NONE), 0);
    }

    @Says("they go a YARD in an HOUR, and FILL one in 1 HOUR more: a SEEP is LOST, if it is broken when it would be FILLED")
    static void brokenNowIsLostNeverBrokenIsNot() {
        DikeWatch x = Due.told("seep 5 99 1 0;seep 5 99 0 0");
        x.go(1);
        Due.due("broken now", x.order(5, 1, NONE), 1);
        Due.due("never broken", x.order(0, 2, NONE), 0);
        Due.due("both", x.order(0, 3, NONE), 1);
    }

    @Says("(they fill it all the same).")
    static void whatIsLostTakesItsTimeToo() {
        DikeWatch x = Due.told("seep 5 99 1 0;seep 5 98 1 0;seep 9 96 1 0");
        Due.due("0 is lost anyhow", x.order(5, 3, NONE), 1);
        Due.due("1 first, else it is lost too", x.order(5, 3, 0), 1);
        Due.due("0 is in the row", x.order(5, 3, 1), 0);
        Due.due("no third", x.order(5, 3, 2), NONE);
    }

    @Says("ORDER: the row by which fewest are LOST; of several the first (by SEEPS).")
    static void ofSeveralTheFirst() {
        DikeWatch x = Due.told("seep 9 50 0 0;seep 0 50 0 0;seep 5 50 0 0;seep 1 50 0 0;seep 8 50 0 0;seep 3 50 0 0");
        for (int i = 0; i < 5; i++) {
            Due.due("none is lost, SEEP " + i, x.order(4, 62, i), i + 1);
            Due.due("none is lost, SEEP " + i, x.order(4, 31, i), i);
        }
        x = Due.told(Due.lines("seep 5 99 1 0", 5));
        x.go(1);
        for (int i = 0; i < 5; i++) {
            Due.due("all are lost, SEEP " + i, x.order(5, 31, i), i);
        }
        Due.due("all are lost", x.order(5, 31, NONE), 5);
    }

    @Says("ORDER: the row by which fewest are LOST; of several the first (by SEEPS).")
    static void theLastRowOfAll() {
        DikeWatch x = Due.told("seep 5 94 1 0;seep 5 95 1 0;seep 5 96 1 0;seep 5 97 1 0;seep 5 98 1 0");
        Due.due("lost", x.order(5, 31, NONE), 0);
        for (int i = 0; i < 5; i++) {
            Due.due("SEEP " + i, x.order(5, 31, i), 4 - i);
        }
    }

    @Says("ORDER: the row by which fewest are LOST; of several the first (by SEEPS).")
    static void eachRowCanBeTheOnlyOne() {
        int[] row = new int[5];
        for (int code = 0; code < 3125; code++) {
            int used = 0;
            for (int i = 0, rest = code; i < 5; i++, rest /= 5) {
                row[i] = rest % 5;
                used |= 1 << row[i];
            }
            if (used == 31) {
                theOnlyRow(row);
            }
        }
    }

    /** The i-th of the row breaks in the HOUR behind that of the i-th fill. */
    private static void theOnlyRow(int[] row) {
        int[] size = new int[5];
        for (int i = 0; i < 5; i++) {
            size[row[i]] = 98 - i;
        }
        StringBuilder text = new StringBuilder("dike 4");
        for (int of : size) {
            text.append(";seep 3 ").append(of).append(" 1 0");
        }
        DikeWatch x = Due.told(text.toString());
        Due.due("order(3, 31, -1) of '" + text + "'", x.order(3, 31, NONE), 0);
        Due.due("order(2, 31, -1) of '" + text + "': an HOUR later each", x.order(2, 31, NONE), 1);
        for (int i = 0; i < 5; i++) {
            Due.due("order(3, 31, " + i + ") of '" + text + "'", x.order(3, 31, i), row[i]);
        }
    }

    @Says("they go a YARD in an HOUR, and FILL one in 1 HOUR more: a SEEP is LOST, if it is broken when it would be FILLED")
    static void fromOneYardToTheNext() {
        DikeWatch x = Due.told("seep 2 97 1 0;seep 9 89 1 0;seep 0 96 1 0;seep 9 88 1 0");
        Due.due("0 in 2, 1 in 10: 11 is soon enough", x.order(1, 3, NONE), 0);
        Due.due("2 in 2, 0 in 5 lost; 0 in 2, 2 in 5 lost", x.order(1, 5, NONE), 1);
        Due.due("0 in 2, 1 in 10, 3 in 11", x.order(1, 11, NONE), 0);
        Due.due("0 first", x.order(1, 11, 0), 0);
        Due.due("2 in 2, 3 in 12 lost; 3 in 9, 2 lost", x.order(1, 12, NONE), 1);
        Due.due("2 in 1, 3 in 11", x.order(0, 12, NONE), 0);
        Due.due("2 in 1, 1 in 11 lost", x.order(0, 6, NONE), 1);
    }

    @Says("how many are LOST (i NONE), the i-th SEEP; NONE: there are not so many.")
    static void placesInTheRow() {
        DikeWatch x = Due.told("seep 5 1 0 0;seep 6 1 0 0");
        Due.due("order(0, 3, -1)", x.order(0, 3, -1), 0);
        Due.due("order(0, 3, 0)", x.order(0, 3, 0), 0);
        Due.due("order(0, 3, 1)", x.order(0, 3, 1), 1);
        Due.due("order(0, 3, 2)", x.order(0, 3, 2), NONE);
        Due.due("order(0, 3, MOST)", x.order(0, 3, Due.MOST), NONE);
        Due.due("order(0, 0, -1), an empty set", x.order(0, 0, -1), 0);
        Due.due("order(0, 0, 0), an empty set", x.order(0, 0, 0), NONE);
        Due.due("order(11, 2, 0)", x.order(11, 2, 0), 1);
        Due.due("order(11, 2, 1)", x.order(11, 2, 1), NONE);
    }

    @Says("UNKNOWN; OUTSIDE: i below NONE; NOT: more than 5, one of them is FILLED.")
    static void noSuchYardNoSuchSeep() {
        DikeWatch x = Due.told("dike 4;seep 3 1 0 0;seep 2 1 0 0");
        for (int yard : new int[] {-1, 4, Due.LEAST, Due.MOST}) {
            Due.due("order(" + yard + ", 3, -2)", x.order(yard, 3, -2), UNKNOWN);
            Due.due("order(" + yard + ", 0, 0)", x.order(yard, 0, 0), UNKNOWN);
        }
        for (int set : new int[] {4, 5, 64, -1, 1 << 30, Due.LEAST, Due.MOST}) {
            Due.due("order(0, " + set + ", -2)", x.order(0, set, -2), UNKNOWN);
            Due.due("order(3, " + set + ", 0)", x.order(3, set, 0), UNKNOWN);
        }
        for (int i : new int[] {-2, -3, Due.LEAST}) {
            Due.due("order(0, 3, " + i + ")", x.order(0, 3, i), OUTSIDE);
            Due.due("order(0, 0, " + i + ")", x.order(0, 0, i), OUTSIDE);
        }
    }

    @Says("UNKNOWN; OUTSIDE: i below NONE; NOT: more than 5, one of them is FILLED.")
    static void fiveSeepsAtMostAndNoneFilled() {
        DikeWatch x = Due.told("seep 0 1 0 0;seep 1 1 0 0;seep 2 1 0 0;seep 3 1 0 0;seep 4 1 0 0;seep 5 1 0 0");
        Due.due("order(0, 63, -1)", x.order(0, 63, -1), NOT);
        Due.due("order(0, 63, 9)", x.order(0, 63, 9), NOT);
        Due.due("order(0, 63, -2)", x.order(0, 63, -2), OUTSIDE);
        Due.due("order(0, 64, 0)", x.order(0, 64, 0), UNKNOWN);
        Due.due("order(0, 31, 4)", x.order(0, 31, 4), 4);
        x.fill(5);
        Due.due("order(0, 32, 0)", x.order(0, 32, 0), NOT);
        Due.due("order(0, 33, 5)", x.order(0, 33, 5), NOT);
        Due.due("order(0, 33, -2)", x.order(0, 33, -2), OUTSIDE);
        Due.due("order(0, 31, -1)", x.order(0, 31, -1), 0);
    }

    // ---- storms

    private static void odds(DikeWatch x, int seep, int t, int p, long above, long below) {
        Due.due("storms(" + seep + ", " + t + ", " + p + ", 0)", x.storms(seep, t, p, 0), above);
        Due.due("storms(" + seep + ", " + t + ", " + p + ", 1)", x.storms(seep, t, p, 1), below);
    }

    @Says("STORMS: the odds that a SEEP BREAKS in t HOURS (0 .. 18),")
    static void inNoHourAndIn18() {
        DikeWatch x = Due.told("seep 0 99 1 9;seep 0 82 1 0;seep 0 81 1 0;seep 0 1 6 0;seep 0 1 5 0");
        odds(x, 0, 0, 10, 0, 1);
        odds(x, 1, 18, 10, 1, 1);
        odds(x, 1, 17, 10, 0, 1);
        odds(x, 2, 18, 10, 0, 1);
        odds(x, 3, 17, 10, 1, 1);
        odds(x, 3, 16, 10, 0, 1);
        odds(x, 4, 18, 10, 0, 1);
        odds(x, 1, 18, 1, 1, 1000000000000000000L);
        odds(x, 1, 18, 5, 1, 262144);
    }

    @Says("if in each TIDE is its LEVEL by p tenths (0 .. 10), by itself, else lower.")
    static void neverAndAlways() {
        DikeWatch x = Due.told("tide 0 9;seep 0 99 1 9;seep 0 99 1 0;seep 0 99 0 0");
        odds(x, 0, 18, 0, 0, 1);
        odds(x, 1, 18, 0, 0, 1);
        odds(x, 0, 1, 10, 1, 1);
        odds(x, 0, 1, 1, 1, 10);
        odds(x, 0, 1, 9, 9, 10);
        odds(x, 2, 18, 10, 0, 1);
        odds(x, 0, 18, 1, 849905364703000879L, 1000000000000000000L);
    }

    @Says("STORMS: the odds that a SEEP BREAKS in t HOURS (0 .. 18),")
    static void brokenNowForSure() {
        DikeWatch x = Due.told("seep 0 99 1 0");
        x.go(1);
        odds(x, 0, 0, 0, 1, 1);
        odds(x, 0, 18, 0, 1, 1);
        odds(x, 0, 18, 9, 1, 1);
    }

    @Says("Parts are told in lowest terms: above (part 0), below (1).")
    static void lowestTerms() {
        DikeWatch x = Due.told("seep 0 99 1 0;seep 0 98 1 0");
        odds(x, 0, 1, 2, 1, 5);
        odds(x, 0, 1, 4, 2, 5);
        odds(x, 0, 1, 5, 1, 2);
        odds(x, 0, 1, 6, 3, 5);
        odds(x, 0, 1, 8, 4, 5);
        odds(x, 0, 2, 5, 3, 4);
        odds(x, 0, 2, 6, 21, 25);
        odds(x, 1, 2, 4, 4, 25);
        odds(x, 1, 3, 5, 1, 2);
        odds(x, 0, 3, 0, 0, 1);
        odds(x, 0, 3, 10, 1, 1);
        odds(x, 0, 18, 5, 262143, 262144);
    }

    @Says("STORMS. UNKNOWN; OUTSIDE; NOT: it is FILLED.")
    static void stormsRefused() {
        DikeWatch x = Due.told("seep 0 99 1 0;seep 1 99 1 0");
        x.fill(1);
        for (int seep = 0; seep < 2; seep++) {
            for (int wrong : new int[] {-1, 19, Due.LEAST, Due.MOST}) {
                Due.due("storms(" + seep + ", " + wrong + ", 0, 0)", x.storms(seep, wrong, 0, 0), OUTSIDE);
                Due.due("storms(" + seep + ", 0, " + wrong + ", 0)", x.storms(seep, 0, wrong, 0), OUTSIDE);
                Due.due("storms(" + seep + ", 0, 0, " + wrong + ")", x.storms(seep, 0, 0, wrong), OUTSIDE);
                Due.due("storms(2, .., " + wrong + ")", x.storms(2, wrong, wrong, wrong), UNKNOWN);
            }
            Due.due("storms(" + seep + ", 0, 11, 0)", x.storms(seep, 0, 11, 0), OUTSIDE);
            Due.due("storms(" + seep + ", 0, 0, 2)", x.storms(seep, 0, 0, 2), OUTSIDE);
        }
        Due.due("storms(1, 18, 10, 1)", x.storms(1, 18, 10, 1), NOT);
        Due.due("storms(-1, 0, 0, 0)", x.storms(-1, 0, 0, 0), UNKNOWN);
        Due.due("storms(2, 0, 0, 0)", x.storms(2, 0, 0, 0), UNKNOWN);
    }

    // ---- guard

    @Says("GUARD: the YARD at which one with an EAR e (0 .. 9) HEARS most of all SEEPS that are not FILLED; of several the least.")
    static void anEarOf0AndOf9() {
        DikeWatch x = Due.told("dike 24;seep 0 1 0 0;seep 18 1 0 0;seep 19 1 0 0;seep 23 1 0 0;seep 23 1 0 0");
        Due.due("guard(0, 0)", x.guard(0, 0), 23);
        Due.due("guard(0, 1)", x.guard(0, 1), 24);
        Due.due("guard(9, 0): 14 .. hear four, 9 hears 0 and 18", x.guard(9, 0), 14);
        Due.due("guard(9, 1)", x.guard(9, 1), 30);
        x.fill(23);
        Due.due("guard(9, 0): 0 and 18", x.guard(9, 0), 9);
        Due.due("guard(9, 1)", x.guard(9, 1), 3);
        Due.due("guard(0, 0)", x.guard(0, 0), 0);
        Due.due("guard(0, 1)", x.guard(0, 1), 1);
    }

    @Says("GUARD: the YARD at which one with an EAR e (0 .. 9) HEARS most of all SEEPS that are not FILLED; of several the least.")
    static void eachYardCanBeTheBest() {
        for (int yard = 0; yard < 24; yard++) {
            DikeWatch x = Due.told("dike 24;seep " + yard + " 1 0 0");
            Due.due("guard(0, 0)", x.guard(0, 0), yard);
            Due.due("guard(1, 0)", x.guard(1, 0), Math.max(0, yard - 1));
            Due.due("guard(9, 0)", x.guard(9, 0), Math.max(0, yard - 9));
            Due.due("guard(9, 1)", x.guard(9, 1), 1);
        }
    }

    @Says("GUARD: the YARD at which one with an EAR e (0 .. 9) HEARS most of all SEEPS that are not FILLED; of several the least.")
    static void noSeepIsLeft() {
        DikeWatch x = Due.told("seep 11 99 1 0");
        x.go(1);
        Due.due("guard(0, 0), broken", x.guard(0, 0), 11);
        Due.due("guard(0, 1), broken", x.guard(0, 1), 1);
        x.fill(11);
        Due.due("guard(0, 0)", x.guard(0, 0), 0);
        Due.due("guard(0, 1)", x.guard(0, 1), 0);
        Due.tell(x, "dry");
        Due.due("guard(9, 0)", x.guard(9, 0), 0);
        Due.due("guard(9, 1)", x.guard(9, 1), 0);
    }

    @Says("GUARD: the YARD (what 0), SEEPS (1, by bits). OUTSIDE.")
    static void earsAndWhatOfAGuard() {
        DikeWatch x = Due.told("seep 11 9 1 0");
        for (int wrong : new int[] {-1, 10, Due.LEAST, Due.MOST}) {
            Due.due("guard(" + wrong + ", 0)", x.guard(wrong, 0), OUTSIDE);
            Due.due("guard(" + wrong + ", 1)", x.guard(wrong, 1), OUTSIDE);
            Due.due("guard(0, " + wrong + ")", x.guard(0, wrong), OUTSIDE);
        }
        Due.due("guard(9, 2)", x.guard(9, 2), OUTSIDE);
    }

    // ---- what is asked for

    @Says("LATER: SIZE of a SEEP (what 0), the YARD of a CHILD (1), SEEPS that he HEARS (2).")
    static void aSeepOrAChildByWhat() {
        DikeWatch x = Due.told("seep 3 10 2 0;seep 9 20 3 0;plain 1 2 1");
        Due.due("later(1, 4, 0)", x.later(1, 4, 0), 32);
        Due.due("later(0, 4, 1)", x.later(0, 4, 1), 9);
        Due.due("later(0, 4, 2)", x.later(0, 4, 2), 2);
        Due.due("later(0, 1, 2)", x.later(0, 1, 2), 1);
        Due.due("later(1, 4, 1): there is one CHILD", x.later(1, 4, 1), UNKNOWN);
        Due.due("later(1, 4, 2): there is one CHILD", x.later(1, 4, 2), UNKNOWN);
    }

    @Says("MEN begin at a YARD, with a set of SEEPS (5 at most):")
    static void noneToFiveSeeps() {
        DikeWatch x = Due.told("seep 0 1 0 0;seep 1 1 0 0;seep 2 1 0 0;seep 3 1 0 0;seep 4 1 0 0;seep 5 1 0 0");
        for (int set = 0; set < 64; set++) {
            int n = Integer.bitCount(set);
            Due.due("order(0, " + set + ", " + (n - 1) + ")", x.order(0, set, n - 1),
                n > 5 ? NOT : n == 0 ? 0 : 31 - Integer.numberOfLeadingZeros(set));
            Due.due("order(0, " + set + ", " + n + ")", x.order(0, set, n), n > 5 ? NOT : NONE);
        }
    }

    @Says("ORDER of MEN from a YARD:")
    static void whereTheyBeginTellsTheRow() {
        DikeWatch x = Due.told("seep 11 94 1 0;seep 0 94 1 0");
        for (int yard = 0; yard < 12; yard++) {
            // each breaks in 6 hours, so that men are in time from 4 yards off at most
            boolean isInTime = yard <= 4 || yard >= 7;
            Due.due("order(" + yard + ", 3, -1)", x.order(yard, 3, NONE), isInTime ? 1 : 2);
            Due.due("order(" + yard + ", 3, 0)", x.order(yard, 3, 0), yard <= 4 ? 1 : 0);
        }
    }
}
