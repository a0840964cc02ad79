/** The document's boundary cases of the hours: how seeps grow, children walk, fills are paid, nights are kept. */
public final class HoursBoundariesTest {
    private static final int NONE = Due.NONE, UNKNOWN = Due.UNKNOWN, OUTSIDE = Due.OUTSIDE, NOT = Due.NOT, FULL = Due.FULL;

    public static void main(String[] args) throws ReflectiveOperationException {
        Due.run(HoursBoundariesTest.class);
    }

    // ---- go

    @Says("n HOURS (1 .. 99) go: how many in all. OUTSIDE; FULL: above 9999 in all.")
    static void oneTo99Hours() {
        DikeWatch x = new DikeWatch();
        Due.due("go(1)", x.go(1), 1);
        Due.due("go(99)", x.go(99), 100);
        for (int n : new int[] {0, 100, -1, -99, Due.LEAST, Due.MOST}) {
            Due.due("go(" + n + ")", x.go(n), OUTSIDE);
        }
        Due.due("count(3)", x.count(3), 100);
    }

    @Says("n HOURS (1 .. 99) go: how many in all. OUTSIDE; FULL: above 9999 in all.")
    static void to9999AndNotAbove() {
        DikeWatch x = new DikeWatch();
        Due.pass(x, 9950);
        Due.due("go(50)", x.go(50), FULL);
        Due.due("go(99)", x.go(99), FULL);
        Due.due("go(100)", x.go(100), OUTSIDE);
        Due.due("count(3)", x.count(3), 9950);
        Due.due("go(49)", x.go(49), 9999);
        Due.due("go(1)", x.go(1), FULL);
        Due.due("go(0)", x.go(0), OUTSIDE);
        Due.due("go(100)", x.go(100), OUTSIDE);
        Due.due("count(3)", x.count(3), 9999);
    }

    @Says("n HOURS (1 .. 99) go: how many in all. OUTSIDE; FULL: above 9999 in all.")
    static void behindATextThereIsRoomAgain() {
        DikeWatch x = new DikeWatch();
        Due.pass(x, 9999);
        Due.tell(x, "dry");
        Due.due("go(99)", x.go(99), 99);
    }

    @Says("In an HOUR (of the day: HOURS gone, modulo 12)")
    static void behindTheHour11ComesTheHour0() {
        DikeWatch x = Due.told("tide 0 5;tide 11 7;seep 0 10 1 5;seep 0 10 1 6;seep 0 10 1 7");
        int[][] rows = {{1, 11, 10, 10}, {10, 11, 10, 10}, {1, 12, 11, 11}, {1, 13, 11, 11}, {10, 13, 11, 11}, {1, 14, 12, 12}, {1, 15, 12, 12}};
        for (int[] row : rows) {
            int hours = x.go(row[0]);
            for (int seep = 0; seep < 3; seep++) {
                Due.due("seep(" + seep + ", 1) in HOUR " + hours, x.seep(seep, 1), row[seep + 1]);
            }
        }
    }

    // ---- seeps

    @Says("each SEEP that is not FILLED grows by its GROWTH, if TIDE then is its LEVEL at least, to 100 at most: there it BREAKS.")
    static void atItsLevelAndAboveItGrows() {
        DikeWatch x = Due.told("tide 0 5;seep 0 50 9 4;seep 0 50 9 5;seep 0 50 9 6;seep 0 50 0 0;seep 0 50 1 0");
        x.go(1);
        int[] sizes = {59, 59, 50, 50, 51};
        for (int seep = 0; seep < 5; seep++) {
            Due.due("seep(" + seep + ", 1)", x.seep(seep, 1), sizes[seep]);
        }
    }

    @Says("each SEEP that is not FILLED grows by its GROWTH, if TIDE then is its LEVEL at least, to 100 at most: there it BREAKS.")
    static void aLevelOf0AndOf9() {
        DikeWatch x = Due.told("tide 1 8;tide 2 9;seep 0 50 1 0;seep 0 50 1 9");
        x.go(1);
        Due.due("seep(0, 1) at TIDE 0", x.seep(0, 1), 51);
        x.go(1);
        Due.due("seep(1, 1) at TIDE 8", x.seep(1, 1), 50);
        x.go(1);
        Due.due("seep(1, 1) at TIDE 9", x.seep(1, 1), 51);
    }

    @Says("each SEEP that is not FILLED grows by its GROWTH, if TIDE then is its LEVEL at least, to 100 at most: there it BREAKS.")
    static void to100AndNoMore() {
        DikeWatch x = Due.told("seep 0 91 9 0;seep 0 90 9 0;seep 0 92 9 0;seep 0 99 9 0;seep 0 99 0 0");
        x.go(1);
        int[] sizes = {100, 99, 100, 100, 99};
        for (int seep = 0; seep < 5; seep++) {
            Due.due("seep(" + seep + ", 1)", x.seep(seep, 1), sizes[seep]);
        }
        Due.due("count(5)", x.count(5), 1 | 4 | 8);
        x.go(99);
        Due.due("seep(0, 1)", x.seep(0, 1), 100);
        Due.due("seep(1, 1)", x.seep(1, 1), 100);
        Due.due("seep(4, 1)", x.seep(4, 1), 99);
    }

    @Says("each SEEP that is not FILLED grows by its GROWTH, if TIDE then is its LEVEL at least, to 100 at most: there it BREAKS.")
    static void whatIsFilledDoesNotGrow() {
        DikeWatch x = Due.told("seep 0 50 9 0;seep 1 50 9 0");
        x.fill(0);
        x.go(99);
        Due.due("seep(0, 1)", x.seep(0, 1), 50);
        Due.due("seep(1, 1)", x.seep(1, 1), 100);
        Due.due("count(5)", x.count(5), 2);
    }

    // ---- children

    @Says("Then each CHILD goes PACE YARDS, step by step, to greater YARDS at first; who is at an end turns round ahead of a step.")
    static void paceFrom0To3() {
        DikeWatch x = Due.told("plain 4 0 0;tired 4 1 0;hoax 4 2 0;deaf 4 3 0");
        x.go(1);
        for (int child = 0; child < 4; child++) {
            Due.due("child(" + child + ", 1)", x.child(child, 1), 4 + child);
        }
        Due.pass(x, 9998);
        Due.due("child(0, 1), who stands", x.child(0, 1), 4);
        Due.due("child(0, 4), who stands", x.child(0, 4), 0);
    }

    @Says("Then each CHILD goes PACE YARDS, step by step, to greater YARDS at first; who is at an end turns round ahead of a step.")
    static void whoBeginsAtTheLastYardTurnsFirst() {
        DikeWatch x = Due.told("dike 24;plain 23 1 0;plain 23 3 0;plain 0 1 0");
        x.go(1);
        Due.due("child(0, 1)", x.child(0, 1), 22);
        Due.due("child(0, 4)", x.child(0, 4), 1);
        Due.due("child(1, 1)", x.child(1, 1), 20);
        Due.due("child(1, 4)", x.child(1, 4), 1);
        Due.due("child(2, 1)", x.child(2, 1), 1);
        Due.due("child(2, 4)", x.child(2, 4), 0);
    }

    @Says("Then each CHILD goes PACE YARDS, step by step, to greater YARDS at first; who is at an end turns round ahead of a step.")
    static void heTurnsInTheMidstOfAnHour() {
        DikeWatch x = Due.told("plain 9 3 0;plain 10 3 0;plain 10 2 0");
        x.go(1);
        Due.due("child(0, 1): 10, 11, 10", x.child(0, 1), 10);
        Due.due("child(0, 4)", x.child(0, 4), 1);
        Due.due("child(1, 1): 11, 10, 9", x.child(1, 1), 9);
        Due.due("child(2, 1): 11, 10", x.child(2, 1), 10);
        x.go(3);
        Due.due("child(0, 1): 7, 4, 1", x.child(0, 1), 1);
        x.go(1);
        Due.due("child(0, 1): 0, 1, 2", x.child(0, 1), 2);
        Due.due("child(0, 4)", x.child(0, 4), 0);
    }

    @Says("Then each CHILD goes PACE YARDS, step by step, to greater YARDS at first; who is at an end turns round ahead of a step.")
    static void fromEndToEndOfTheShortestDike() {
        DikeWatch x = Due.told("dike 4;plain 0 3 0;plain 1 3 0");
        int[][] rows = {{3, 0, 2, 1}, {0, 1, 1, 0}, {3, 0, 2, 1}, {0, 1, 1, 0}};
        for (int[] row : rows) {
            x.go(1);
            Due.due("child(0, 1)", x.child(0, 1), row[0]);
            Due.due("child(0, 4)", x.child(0, 4), row[1]);
            Due.due("child(1, 1)", x.child(1, 1), row[2]);
            Due.due("child(1, 4)", x.child(1, 4), row[3]);
        }
    }

    // ---- fill

    @Says("A FILL: ORANGES that are paid, all together. UNKNOWN.")
    static void theFirstAndTheLastYard() {
        DikeWatch x = Due.told("dike 24;seep 0 1 0 0;seep 23 1 0 0;hoax 0 0 0;hoax 23 0 0");
        for (int yard : new int[] {-1, 24, 32, Due.LEAST, Due.MOST}) {
            Due.due("fill(" + yard + ")", x.fill(yard), UNKNOWN);
        }
        Due.due("count(4)", x.count(4), 0);
        Due.due("fill(0)", x.fill(0), 9);
        Due.due("fill(23)", x.fill(23), 9);
        Due.due("count(4)", x.count(4), 3);
    }

    @Says("A FILL of a YARD: all SEEPS there are FILLED (SIZE stays);")
    static void allThatAreThere() {
        DikeWatch x = Due.told("seep 5 10 1 0;seep 4 20 1 0;seep 5 99 1 0;seep 6 30 1 0;seep 5 40 0 0");
        x.go(1);
        x.fill(5);
        Due.due("count(4)", x.count(4), 1 | 4 | 16);
        x.go(9);
        int[] sizes = {11, 30, 100, 40, 40};
        for (int seep = 0; seep < 5; seep++) {
            Due.due("seep(" + seep + ", 1)", x.seep(seep, 1), sizes[seep]);
        }
    }

    @Says("if one was (not FILLED ahead, not broken), each CHILD that TELLS a YARD (as things are ahead of the FILL) is paid 9 ORANGES,")
    static void whereThereIsNoneNobodyIsPaid() {
        DikeWatch x = Due.told("hoax 5 0 0;seep 6 1 0 0");
        Due.due("fill(5)", x.fill(5), 0);
        Due.due("child(0, 5)", x.child(0, 5), 0);
    }

    @Says("if one was (not FILLED ahead, not broken), each CHILD that TELLS a YARD (as things are ahead of the FILL) is paid 9 ORANGES,")
    static void forWhatIsFilledNobodyIsPaidAgain() {
        DikeWatch x = Due.told("hoax 5 0 0;seep 5 1 0 0");
        Due.due("fill(5)", x.fill(5), 9);
        Due.due("fill(5)", x.fill(5), 0);
        Due.due("child(0, 5)", x.child(0, 5), 9);
    }

    @Says("if one was (not FILLED ahead, not broken), each CHILD that TELLS a YARD (as things are ahead of the FILL) is paid 9 ORANGES,")
    static void forWhatIsBrokenNobodyIsPaid() {
        DikeWatch x = Due.told("hoax 5 0 0;seep 5 99 1 0");
        x.go(1);
        Due.due("fill(5)", x.fill(5), 0);
        Due.due("child(0, 5)", x.child(0, 5), 0);
        Due.due("count(4)", x.count(4), 1);
    }

    @Says("if one was (not FILLED ahead, not broken), each CHILD that TELLS a YARD (as things are ahead of the FILL) is paid 9 ORANGES,")
    static void oneThatIsSoundIsEnough() {
        DikeWatch x = Due.told("hoax 5 0 0;seep 5 99 1 0;seep 5 98 1 0");
        x.go(1);
        Due.due("count(5)", x.count(5), 1);
        Due.due("fill(5)", x.fill(5), 9);
        Due.due("count(4)", x.count(4), 3);
    }

    @Says("if one was (not FILLED ahead, not broken), each CHILD that TELLS a YARD (as things are ahead of the FILL) is paid 9 ORANGES,")
    static void whatHeTellsAheadOfTheFillCounts() {
        DikeWatch x = Due.told("plain 5 0 2;deaf 5 0 9;plain 9 0 0;seep 5 1 0 0;seep 7 1 0 0");
        Due.due("fill(5)", x.fill(5), 9);
        Due.due("child(0, 5), who tells 5", x.child(0, 5), 9);
        Due.due("child(1, 5), who tells none", x.child(1, 5), 0);
        Due.due("child(2, 5), who tells none", x.child(2, 5), 0);
        Due.due("child(0, 6)", x.child(0, 6), 7);
        Due.due("fill(7)", x.fill(7), 9);
        Due.due("child(0, 5)", x.child(0, 5), 18);
        Due.due("child(0, 6)", x.child(0, 6), NONE);
    }

    @Says("one less for each YARD by which the YARD that he TELLS is off that of the FILL (0 at least).")
    static void nineYardsOffAndMoreArePaidNothing() {
        int[] oranges = {9, 8, 7, 6, 5, 4, 3, 2, 1, 0, 0, 0};
        for (int off = 0; off < 12; off++) {
            DikeWatch x = Due.told("dike 24;seep 12 1 0 0;seep 11 1 0 0;hoax " + (12 + off) + " 0 0;hoax " + (11 - off) + " 0 0");
            Due.due("fill(12), told from " + (12 + off), x.fill(12), oranges[off] + Math.max(0, oranges[off] - 1));
            Due.due("child(0, 5)", x.child(0, 5), oranges[off]);
            x.fill(11);
            Due.due("child(1, 5), told from " + (11 - off), x.child(1, 5), Math.max(0, oranges[off] - 1) + oranges[off]);
        }
    }

    @Says("A FILL: ORANGES that are paid, all together. UNKNOWN.")
    static void fiveAreTheMostThatArePaid() {
        DikeWatch x = Due.told("plain 5 0 0;hoax 5 0 0;tired 5 0 9;plain 6 0 1;hoax 4 0 0;seep 5 1 0 0");
        Due.due("fill(5)", x.fill(5), 9 + 9 + 9 + 9 + 8);
    }

    // ---- keep, back

    @Says("All as it is (HOURS, SEEPS, CHILDREN, ORANGES) is kept (k 0, 1): HOURS. UNKNOWN: no such k.")
    static void twoCanBeKept() {
        DikeWatch x = new DikeWatch();
        for (int k : new int[] {-1, 2, 3, 32, 33, Due.LEAST, Due.MOST}) {
            Due.due("keep(" + k + ")", x.keep(k), UNKNOWN);
            Due.due("back(" + k + ")", x.back(k), UNKNOWN);
        }
        Due.due("keep(0)", x.keep(0), 0);
        x.go(7);
        Due.due("keep(1)", x.keep(1), 7);
        x.go(1);
        Due.due("back(0)", x.back(0), 0);
        Due.due("back(1)", x.back(1), 7);
        Due.due("back(0)", x.back(0), 0);
    }

    @Says("All as it is (HOURS, SEEPS, CHILDREN, ORANGES) is kept (k 0, 1): HOURS. UNKNOWN: no such k.")
    static void keptAnewOverTheOld() {
        DikeWatch x = new DikeWatch();
        x.keep(0);
        x.go(3);
        Due.due("keep(0)", x.keep(0), 3);
        x.go(4);
        Due.due("back(0)", x.back(0), 3);
        Due.due("back(1)", x.back(1), NOT);
    }

    @Says("It is as it was kept: HOURS. UNKNOWN; NOT: nothing was kept since the last text.")
    static void allOfItComesBack() {
        DikeWatch x = Due.told("dike 6;tide 1 9;seep 5 50 9 0;seep 2 95 1 9;plain 4 1 9;tired 0 2 3;hoax 5 3 0");
        x.go(2);
        x.fill(5);
        String then = Due.face(x);
        x.keep(1);
        Due.due("fill(2)", x.fill(2), 9 + 9 + 8);
        x.go(97);
        Due.due("back(1)", x.back(1), 2);
        Due.same("back(1)", Due.face(x), then);
        x.go(5);
        Due.due("back(1) again", x.back(1), 2);
        Due.same("back(1) again", Due.face(x), then);
    }

    @Says("It is as it was kept: HOURS. UNKNOWN; NOT: nothing was kept since the last text.")
    static void nothingWasKept() {
        DikeWatch x = new DikeWatch();
        Due.due("back(0)", x.back(0), NOT);
        x.keep(1);
        Due.due("back(0)", x.back(0), NOT);
        Due.due("back(1)", x.back(1), 0);
        Due.tell(x, "dry");
        Due.due("back(0)", x.back(0), NOT);
        Due.due("back(1)", x.back(1), NOT);
        x.keep(0);
        Due.due("back(0)", x.back(0), 0);
        Due.due("back(1)", x.back(1), NOT);
    }

    @Says("It is as it was kept: HOURS. UNKNOWN; NOT: nothing was kept since the last text.")
    static void aTextWithAFaultLeavesWhatIsKept() {
        DikeWatch x = Due.told("tide 0 0");
        x.go(5);
        x.keep(0);
        Due.write(x, "dike 3");
        Due.due("dike()", x.dike(), NOT);
        Due.due("back(0)", x.back(0), 5);
    }

    @Says("All as it is (HOURS, SEEPS, CHILDREN, ORANGES) is kept (k 0, 1): HOURS. UNKNOWN: no such k.")
    static void seenAndTheTextAreNotKept() {
        DikeWatch x = new DikeWatch();
        x.keep(0);
        x.seen(3, 0, 1);
        Due.write(x, "dry");
        x.back(0);
        Due.due("count(6)", x.count(6), 1);
        Due.due("where()", x.where(), 8);
        Due.due("count(7)", x.count(7), 3);
    }

    @Says("It is as it was kept: HOURS. UNKNOWN; NOT: nothing was kept since the last text.")
    static void fromTheLastHourBack() {
        DikeWatch x = new DikeWatch();
        x.keep(0);
        Due.pass(x, 9999);
        Due.due("keep(1)", x.keep(1), 9999);
        Due.due("go(1)", x.go(1), FULL);
        Due.due("back(0)", x.back(0), 0);
        Due.due("go(1)", x.go(1), 1);
        Due.due("back(1)", x.back(1), 9999);
        Due.due("go(1)", x.go(1), FULL);
    }
}
