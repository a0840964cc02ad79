/** The document's boundary cases of what was seen: seen, paid, forget, where, next. */
public final class SeenBoundariesTest {
    private static final int NONE = Due.NONE, UNKNOWN = Due.UNKNOWN, OUTSIDE = Due.OUTSIDE, FULL = Due.FULL;
    private static final int ALL_OF_12 = (1 << 12) - 1, ALL_OF_24 = (1 << 24) - 1;

    public static void main(String[] args) throws ReflectiveOperationException {
        Due.run(SeenBoundariesTest.class);
    }

    // ---- seen

    @Says("SEEN, 9 at most, of one leak at one YARD")
    static void nineAndNoTenth() {
        DikeWatch x = new DikeWatch();
        for (int i = 1; i <= 9; i++) {
            Due.due("seen(" + i + ", 0, 0)", x.seen(i, 0, 0), i);
        }
        Due.due("seen(0, 0, 0), a tenth", x.seen(0, 0, 0), FULL);
        Due.due("paid(0, 9), a tenth", x.paid(0, 9), FULL);
        Due.due("count(6)", x.count(6), 9);
        Due.due("where()", x.where(), 1 | 1 << 10 | 1 << 11);
    }

    @Says("SEEN, 9 at most, of one leak at one YARD")
    static void bothSortsAreCountedTogether() {
        DikeWatch x = new DikeWatch();
        for (int i = 1; i <= 8; i += 2) {
            Due.due("seen(11, 9, 1)", x.seen(11, 9, 1), i);
            Due.due("paid(2, 8)", x.paid(2, 8), i + 1);
        }
        Due.due("paid(2, 8)", x.paid(2, 8), 9);
        Due.due("paid(2, 8), a tenth", x.paid(2, 8), FULL);
        Due.due("seen(3, 0, 1), a tenth", x.seen(3, 0, 1), FULL);
        Due.due("where()", x.where(), 1 << 3);
    }

    @Says("SEEN, 9 at most, of one leak at one YARD")
    static void whatIsSeenTwiceCountsTwice() {
        DikeWatch x = new DikeWatch();
        Due.due("seen(5, 0, 1)", x.seen(5, 0, 1), 1);
        Due.due("seen(5, 0, 1)", x.seen(5, 0, 1), 2);
        Due.due("seen(5, 0, 0), against it", x.seen(5, 0, 0), 3);
        Due.due("where()", x.where(), 0);
        Due.due("seen(5, 0, 1), when it can be nowhere", x.seen(5, 0, 1), 4);
        Due.due("where()", x.where(), 0);
    }

    @Says("at a YARD with an EAR e it was HEARD (1) or not (0);")
    static void anEarOf0AndOf9() {
        DikeWatch x = Due.told("dike 24");
        x.seen(12, 9, 1);
        Due.due("where(): 3 .. 21", x.where(), ALL_OF_24 & ~7 & ~(3 << 22));
        x.seen(12, 9, 0);
        Due.due("where(), both", x.where(), 0);
        x.forget();
        x.seen(12, 9, 0);
        Due.due("where(): 0 .. 2, 22, 23", x.where(), 7 | 3 << 22);
        x.forget();
        x.seen(0, 0, 1);
        Due.due("where()", x.where(), 1);
        x.forget();
        x.seen(23, 0, 0);
        Due.due("where()", x.where(), ALL_OF_24 >> 1);
        x.forget();
        x.seen(23, 9, 1);
        Due.due("where(): 14 .. 23", x.where(), 1023 << 14);
    }

    @Says("at a YARD with an EAR e it was HEARD (1) or not (0);")
    static void theEarReachesBeyondTheEnds() {
        DikeWatch x = Due.told("dike 4");
        x.seen(0, 3, 1);
        Due.due("where()", x.where(), 15);
        x.seen(3, 9, 1);
        Due.due("where()", x.where(), 15);
        x.seen(3, 2, 1);
        Due.due("where()", x.where(), 14);
        x.seen(0, 9, 0);
        Due.due("where()", x.where(), 0);
    }

    @Says("SEEN: at a YARD with an EAR it was HEARD, or not: how many. UNKNOWN; OUTSIDE; FULL.")
    static void seenRefused() {
        DikeWatch x = new DikeWatch();
        seenRefusedBy(x);
        Due.due("count(6)", x.count(6), 0);
        for (int i = 0; i < 9; i++) {
            x.seen(0, 9, 1);
        }
        seenRefusedBy(x);
        Due.due("seen(11, 0, 0)", x.seen(11, 0, 0), FULL);
    }

    private static void seenRefusedBy(DikeWatch x) {
        for (int yard : new int[] {-1, 12, Due.LEAST, Due.MOST}) {
            Due.due("seen(" + yard + ", 0, 0)", x.seen(yard, 0, 0), UNKNOWN);
            Due.due("seen(" + yard + ", 10, 2)", x.seen(yard, 10, 2), UNKNOWN);
        }
        for (int wrong : new int[] {-1, 10, Due.LEAST, Due.MOST}) {
            Due.due("seen(0, " + wrong + ", 0)", x.seen(0, wrong, 0), OUTSIDE);
            Due.due("seen(0, 0, " + wrong + ")", x.seen(0, 0, wrong), OUTSIDE);
        }
        Due.due("seen(0, 0, 2)", x.seen(0, 0, 2), OUTSIDE);
    }

    // ---- paid

    @Says("or one who told a YARD was paid o ORANGES (0 .. 9).")
    static void nineOrangesAndNone() {
        DikeWatch x = Due.told("dike 24");
        x.paid(12, 9);
        Due.due("where(): 12", x.where(), 1 << 12);
        x.forget();
        x.paid(12, 8);
        Due.due("where(): 11 or 13", x.where(), 1 << 11 | 1 << 13);
        x.forget();
        x.paid(12, 1);
        Due.due("where(): 4 or 20", x.where(), 1 << 4 | 1 << 20);
        x.forget();
        x.paid(12, 0);
        Due.due("where(): 0 .. 3, 21 .. 23", x.where(), 15 | 7 << 21);
    }

    @Says("or one who told a YARD was paid o ORANGES (0 .. 9).")
    static void toldAtTheEnds() {
        DikeWatch x = Due.told("dike 24");
        x.paid(0, 1);
        Due.due("where(): 8", x.where(), 1 << 8);
        x.forget();
        x.paid(23, 0);
        Due.due("where(): 0 .. 14", x.where(), (1 << 15) - 1);
        Due.tell(x, "dike 4");
        x.paid(0, 6);
        Due.due("where(): 3", x.where(), 8);
        x.forget();
        x.paid(0, 5);
        Due.due("where(): no such YARD", x.where(), 0);
        x.forget();
        x.paid(3, 0);
        Due.due("where(): none is so far off", x.where(), 0);
    }

    @Says("SEEN: one who told a YARD was paid o ORANGES: how many. UNKNOWN; OUTSIDE; FULL.")
    static void paidRefused() {
        DikeWatch x = new DikeWatch();
        paidRefusedBy(x);
        Due.due("count(6)", x.count(6), 0);
        for (int i = 0; i < 9; i++) {
            x.paid(0, 9);
        }
        paidRefusedBy(x);
        Due.due("paid(11, 0)", x.paid(11, 0), FULL);
    }

    private static void paidRefusedBy(DikeWatch x) {
        for (int yard : new int[] {-1, 12, Due.LEAST, Due.MOST}) {
            Due.due("paid(" + yard + ", 0)", x.paid(yard, 0), UNKNOWN);
            Due.due("paid(" + yard + ", 10)", x.paid(yard, 10), UNKNOWN);
        }
        for (int oranges : new int[] {-1, 10, Due.LEAST, Due.MOST}) {
            Due.due("paid(0, " + oranges + ")", x.paid(0, oranges), OUTSIDE);
        }
    }

    // ---- forget

    @Says("SEEN is nothing: how many there were.")
    static void forgottenWhenEmptyAndWhenFull() {
        DikeWatch x = new DikeWatch();
        Due.due("forget()", x.forget(), 0);
        for (int i = 0; i < 9; i++) {
            x.paid(0, 9);
        }
        Due.due("forget()", x.forget(), 9);
        Due.due("forget()", x.forget(), 0);
        Due.due("count(6)", x.count(6), 0);
        Due.due("where()", x.where(), ALL_OF_12);
        Due.due("seen(0, 0, 0)", x.seen(0, 0, 0), 1);
        Due.due("where()", x.where(), ALL_OF_12 - 1);
    }

    // ---- where

    @Says("WHERE: YARDS at which it can be, by bits.")
    static void allYardsAndNone() {
        DikeWatch x = new DikeWatch();
        Due.due("where()", x.where(), ALL_OF_12);
        Due.tell(x, "dike 24");
        Due.due("where()", x.where(), ALL_OF_24);
        Due.tell(x, "dike 4");
        Due.due("where()", x.where(), 15);
        x.seen(0, 9, 0);
        Due.due("where()", x.where(), 0);
        Due.tell(x, "tide 0 0");
        Due.due("where(), behind a text", x.where(), 15);
    }

    @Says("WHERE: YARDS at which it can be, by bits.")
    static void seepsHaveNoPartInIt() {
        DikeWatch x = Due.told("dike 4;seep 2 9 0 0");
        Due.due("where()", x.where(), 15);
        x.fill(2);
        x.go(99);
        Due.due("where()", x.where(), 15);
    }

    // ---- next

    @Says("of those at which it can be, those in his EAR and those that are not: that by which the more of both are fewest; of several the least;")
    static void anEarOf0AndOf9ForNext() {
        DikeWatch x = Due.told("dike 24");
        Due.due("next(0): 1 and 23, everywhere", x.next(0), 0);
        Due.due("next(9): 12 and 12 from 2", x.next(9), 2);
        Due.due("next(8): 12 and 12 from 3", x.next(8), 3);
        Due.due("next(5): 11 and 13 from 5", x.next(5), 5);
        Due.tell(x, "dike 4");
        Due.due("next(9): 4 and 0, everywhere", x.next(9), 0);
        Due.due("next(3): 4 and 0, everywhere; there is no YARD 4", x.next(3), 0);
        Due.due("next(1): 2 and 2 from 0", x.next(1), 0);
        Due.due("next(0): 1 and 3, everywhere", x.next(0), 0);
    }

    @Says("of those at which it can be, those in his EAR and those that are not: that by which the more of both are fewest; of several the least;")
    static void wherePartsAreAlikeTheLeastYard() {
        DikeWatch x = Due.told("dike 24");
        x.seen(21, 2, 1);
        Due.due("next(1): of 19 .. 23, 2 and 3 from 19", x.next(1), 19);
        Due.due("next(9): 2 and 3 from 11", x.next(9), 11);
        Due.due("next(0): 1 and 4 from 19", x.next(0), 19);
        x.paid(23, 9);
        Due.due("next(0), when it is known", x.next(0), 0);
        Due.due("next(9), when it is known", x.next(9), 0);
    }

    @Says("none: it can be at no YARD.")
    static void nextWhenItCanBeNowhere() {
        DikeWatch x = Due.told("dike 4");
        x.paid(0, 0);
        Due.due("where()", x.where(), 0);
        Due.due("next(0)", x.next(0), NONE);
        Due.due("next(9)", x.next(9), NONE);
        x.forget();
        Due.due("next(0)", x.next(0), 0);
    }

    @Says("NEXT; NONE. OUTSIDE.")
    static void nextRefused() {
        DikeWatch x = Due.told("dike 4");
        for (int times = 0; times < 2; times++) {
            for (int ear : new int[] {-1, 10, Due.LEAST, Due.MOST}) {
                Due.due("next(" + ear + ")", x.next(ear), OUTSIDE);
            }
            x.seen(0, 9, 0);
        }
    }

    @Says("NEXT for an EAR e: the YARD at which it is surest to learn:")
    static void alsoAYardAtWhichItCannotBe() {
        DikeWatch x = new DikeWatch();
        x.seen(0, 1, 0);
        x.seen(6, 2, 0);
        Due.due("where(): 2, 3, 9, 10, 11", x.where(), 4 + 8 + 512 + 1024 + 2048);
        Due.due("next(2): 2 and 3 from 1", x.next(2), 1);
        Due.due("next(3): 2 and 3 from 0", x.next(3), 0);
        Due.due("next(0): 1 and 4 from 2", x.next(0), 2);
    }

    @Says("WHERE, by bits.")
    static void eachYardHasItsBit() {
        DikeWatch x = Due.told("dike 24");
        for (int yard = 0; yard < 24; yard++) {
            x.paid(yard, 9);
            Due.due("where(), paid at " + yard, x.where(), 1 << yard);
            x.forget();
        }
    }
}
