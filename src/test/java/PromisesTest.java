/** For each promise its ordinary answers, its edges and its refusals, reckoned by hand from the document. */
public final class PromisesTest {
    private static final int NONE = -1, UNKNOWN = -2, OUTSIDE = -3, NOT = -4, FULL = -5;
    private static final int[] FAR = {Integer.MIN_VALUE, -1000, 1000, Integer.MAX_VALUE};
    private static int wrong = 0;
    private static int promise = 0;

    private static void due(String call, long got, long want) {
        if (got != want) {
            wrong++;
            System.out.println("promise " + promise + ": " + call + " answered " + got + ", due is " + want);
        }
    }

    private static void write(DikeWatch x, String text) {
        for (int from = 0; from < text.length(); from += 8) {
            int n = Math.min(8, text.length() - from);
            long bytes = 0;
            for (int i = 0; i < n; i++) {
                bytes |= (long) text.charAt(from + i) << 8 * i;
            }
            x.write(bytes, n);
        }
    }

    private static void tell(DikeWatch x, String text) {
        write(x, text);
        due("dike() of '" + text + "'", x.dike(), text.split(";").length);
    }

    private static DikeWatch told(String text) {
        DikeWatch x = new DikeWatch();
        tell(x, text);
        return x;
    }

    private static void fault(DikeWatch x, String text, int want) {
        x.erase();
        write(x, text);
        due("fault() of '" + text + "'", x.fault(), want);
        if (want != NONE) {
            due("dike() of '" + text + "'", x.dike(), NOT);
            due("bytes kept of '" + text + "'", x.count(7), text.length());
        }
    }

    private static void fault(String text, int want) {
        fault(new DikeWatch(), text, want);
    }

    public static void main(String[] args) {
        newObject();
        writes();
        erases();
        faults();
        dikes();
        tides();
        seeps();
        children();
        kinds();
        goes();
        fills();
        keepsAndBacks();
        laters();
        breaking();
        misses();
        watches();
        orders();
        stormy();
        guards();
        seens();
        paids();
        forgets();
        wheres();
        nexts();
        counts();
        System.out.println(wrong == 0 ? "all answers are as due" : wrong + " answers are not as due");
        if (wrong != 0) {
            System.exit(1);
        }
    }

    private static void newObject() {
        promise = 1;
        DikeWatch x = new DikeWatch();
        int[] first = {12, 0, 0, 0, 0, 0, 0, 0};
        for (int what = 0; what < first.length; what++) {
            due("count(" + what + ")", x.count(what), first[what]);
        }
        for (int hour = 0; hour < 12; hour++) {
            due("tide(" + hour + ")", x.tide(hour), 0);
        }
        due("where()", x.where(), 4095);
        due("back(0)", x.back(0), NOT);
        due("back(1)", x.back(1), NOT);
        due("fault()", x.fault(), 0);
        due("NONE", DikeWatch.NONE, NONE);
        due("UNKNOWN", DikeWatch.UNKNOWN, UNKNOWN);
        due("OUTSIDE", DikeWatch.OUTSIDE, OUTSIDE);
        due("NOT", DikeWatch.NOT, NOT);
        due("FULL", DikeWatch.FULL, FULL);
    }

    private static void writes() {
        promise = 2;
        DikeWatch x = new DikeWatch();
        due("write(0, 0)", x.write(0, 0), OUTSIDE);
        due("write(0, 9)", x.write(0, 9), OUTSIDE);
        for (int far : FAR) {
            due("write(0, " + far + ")", x.write(0, far), OUTSIDE);
        }
        due("bytes above n are left", x.write('d' | 'r' << 8 | 'y' << 16 | 'x' << 24, 3), 3);
        due("fault()", x.fault(), NONE);
        x.erase();
        for (int i = 1; i <= 24; i++) {
            due("write(-1, 8)", x.write(-1L, 8), 8 * i);
        }
        due("write to 199", x.write(-1L, 7), 199);
        due("write over 200", x.write(-1L, 2), FULL);
        due("outside comes ahead of full", x.write(-1L, 9), OUTSIDE);
        due("nothing was written", x.count(7), 199);
        due("write to 200", x.write(-1L, 1), 200);
        due("write to a full text", x.write(-1L, 1), FULL);
        due("fault at the first", x.fault(), 0);
    }

    private static void erases() {
        promise = 3;
        DikeWatch x = new DikeWatch();
        due("erase() of nothing", x.erase(), 0);
        write(x, "dike 20;dr");
        due("erase()", x.erase(), 10);
        due("erase() again", x.erase(), 0);
        due("count(7)", x.count(7), 0);
        tell(x, "dry");
        due("what was erased is not told", x.count(0), 12);
    }

    private static void faults() {
        promise = 4;
        fault("", 0);
        fault("   ", 3);
        fault("dry", NONE);
        fault("  dry  ", NONE);
        fault("dry;  ", 6);
        fault(" ;dry", 1);
        fault("dry;;dry", 4);
        fault("dry dry", 4);
        fault("dry4", 3);
        fault("drydry", 0);
        fault("dryx", 0);
        fault("dryz", 0);
        fault("adry", 0);
        fault("ory", 0);
        fault("dry`", 3);
        fault("dry{", 3);
        fault("dike 12/", 7);
        fault("dike 12:", 7);
        fault("tide 09 09;tide 9 9", NONE);
        fault("Dry", 0);
        fault("dRy", 0);
        fault("\tdry", 0);
        fault("dry" + (char) 233, 3);
        fault("dry" + (char) 0, 3);
        fault("7", 0);
        fault("dike", 4);
        fault("dike ", 5);
        fault("dike dry", 5);
        fault("dike;", 4);
        fault("dike 3", 5);
        fault("dike 4", NONE);
        fault("dike4", NONE);
        fault("dike  04", NONE);
        fault("dike 24", NONE);
        fault("dike 25", 5);
        fault("dike 004", 5);
        fault("dike 2 4", 5);
        fault("dike 5 4", 7);
        fault("tide 11 9", NONE);
        fault("tide 12 9", 5);
        fault("tide 11 10", 8);
        fault("tide 1", 6);
        fault("tide 1;dry", 6);
        fault("seep 11 99 9 9", NONE);
        fault("seep 0 1 0 0", NONE);
        fault("seep 12 99 9 9", 5);
        fault("seep 11 0 9 9", 8);
        fault("seep 11 100 9 9", 8);
        fault("seep 11 99 10 9", 11);
        fault("seep 11 99 9 10", 13);
        fault("seep 11 99 9 9 9", 15);
        fault("plain 11 3 9;tired 0 0 0;hoax 1 1 1;deaf 2 2 2", NONE);
        fault("plain 12 3 9", 6);
        fault("tired 11 4 9", 9);
        fault("hoax 11 3 10", 10);
        fault("hoaxer 1 1 1", 0);
        fault("school;school", NONE);
        fault("dike 20;seep 19 1 1 1", NONE);
        fault("dike 20;seep 20 1 1 1", 13);
        fault("dike 4;dike 8;deaf 7 0 0;dike 4;deaf 7 0 0", 37);
        fault("dry;dry;dry;dry;dry;dry;dry;dry;dry;dry;dry;dry", NONE);
        fault("dry;dry;dry;dry;dry;dry;dry;dry;dry;dry;dry;dry ;", 48);
        fullRows();
    }

    private static void fullRows() {
        String seeps = "seep 0 1 1 1;seep 0 1 1 1;seep 0 1 1 1;seep 0 1 1 1;seep 0 1 1 1;seep 0 1 1 1";
        fault(seeps, NONE);
        fault(seeps + ";seep 99", seeps.length() + 1);
        fault(seeps + ";dry;seep 0 1 1 1", NONE);
        fault(seeps + ";dike 4;seep 0 1 1 1", NONE);
        DikeWatch x = told(seeps);
        fault(x, "tide 0 0;seep 0 1 1 1", 9);
        fault(x, "school;dry;seep 0 1 1 1", NONE);
        String children = "plain 0 1 1;tired 0 1 1;hoax 0 1 1;deaf 0 1 1;plain 0 1 1";
        fault(children, NONE);
        fault(children + "; deaf 99", children.length() + 2);
        fault(children + ";school;deaf 0 1 1", NONE);
        x = told(children);
        fault(x, "hoax 0 0 0", 0);
        fault(x, "dry;school;hoax 0 0 0", NONE);
    }

    private static void dikes() {
        promise = 5;
        DikeWatch x = new DikeWatch();
        due("dike() of nothing", x.dike(), NOT);
        tell(x, "dike 20;tide 3 7;seep 19 50 2 1;plain 4 1 2");
        due("THE TEXT is empty then", x.count(7), 0);
        tell(x, "seep 18 40 3 2;deaf 5 2 3");
        due("what was told stays: YARDS", x.count(0), 20);
        due("what was told stays: TIDE", x.tide(3), 7);
        due("what was told stays: SEEPS", x.count(1), 2);
        due("what was told stays: CHILDREN", x.count(2), 2);
        write(x, "dry;dike 4;seep 4 1 1 1");
        due("dike() with a FAULT", x.dike(), NOT);
        due("nothing is done of it", x.count(1), 2);
        x.erase();
        allIsAsToldAgain(x);
        tell(x, "dry");
        due("dry: no SEEPS", x.count(1), 0);
        due("dry leaves CHILDREN", x.count(2), 2);
        tell(x, "seep 1 2 3 4;school");
        due("SEEPS begin with 0 again", x.seep(0, 1), 2);
        due("school: no CHILDREN", x.count(2), 0);
        due("school leaves SEEPS", x.count(1), 1);
        tell(x, "plain 0 0 0;dike 6");
        due("dike: YARDS", x.count(0), 6);
        due("dike: no SEEPS", x.count(1), 0);
        due("dike: no CHILDREN", x.count(2), 0);
        due("dike: TIDE as at first", x.tide(3), 0);
        due("dike: WHERE", x.where(), 63);
        tell(x, "dry;dry;dry;dry;dry;dry;dry;dry;dry;dry;dry;dry");
    }

    private static void allIsAsToldAgain(DikeWatch x) {
        x.go(4);
        x.seen(0, 0, 0);
        x.keep(1);
        x.fill(18);
        due("grown", x.seep(0, 1), 52);
        tell(x, "tide 3 8");
        due("HOURS", x.count(3), 0);
        due("SIZE as told", x.seep(0, 1), 50);
        due("nothing is FILLED", x.count(4), 0);
        due("YARD as told", x.child(0, 1), 4);
        due("nothing is SEEN", x.count(6), 0);
        due("nothing is kept", x.back(1), NOT);
        x = told("plain 11 1 9;seep 11 1 1 1");
        x.go(1);
        x.fill(11);
        due("ORANGES", x.child(0, 5), 9);
        due("goes to lesser", x.child(0, 4), 1);
        tell(x, "tide 0 0");
        due("no ORANGES", x.child(0, 5), 0);
        due("goes to greater", x.child(0, 4), 0);
    }

    private static void tides() {
        promise = 6;
        DikeWatch x = told("tide 0 1;tide 11 9;tide 5 4;tide 5 6");
        due("tide(0)", x.tide(0), 1);
        due("tide(11)", x.tide(11), 9);
        due("tide(5): the last told", x.tide(5), 6);
        due("tide(4)", x.tide(4), 0);
        due("tide(-1)", x.tide(-1), OUTSIDE);
        due("tide(12)", x.tide(12), OUTSIDE);
        for (int far : FAR) {
            due("tide(" + far + ")", x.tide(far), OUTSIDE);
        }
    }

    private static void seeps() {
        promise = 7;
        DikeWatch x = told("seep 3 98 1 0;seep 11 7 9 2");
        long[] first = {3, 98, 1, 0, 0};
        long[] second = {11, 7, 9, 2, 0};
        for (int what = 0; what < 5; what++) {
            due("seep(0, " + what + ")", x.seep(0, what), first[what]);
            due("seep(1, " + what + ")", x.seep(1, what), second[what]);
        }
        x.fill(11);
        due("seep(1, 4) filled", x.seep(1, 4), 1);
        due("seep(0, 4) not filled", x.seep(0, 4), 0);
        due("seep(2, 0)", x.seep(2, 0), UNKNOWN);
        due("seep(-1, 0)", x.seep(-1, 0), UNKNOWN);
        due("seep(0, 5)", x.seep(0, 5), OUTSIDE);
        due("seep(0, -1)", x.seep(0, -1), OUTSIDE);
        due("seep(2, 5): unknown first", x.seep(2, 5), UNKNOWN);
        for (int far : FAR) {
            due("seep(far, 0)", x.seep(far, 0), UNKNOWN);
            due("seep(0, far)", x.seep(0, far), OUTSIDE);
        }
    }

    private static void children() {
        promise = 8;
        DikeWatch x = told("plain 5 1 3;tired 6 2 3;hoax 7 3 9;deaf 8 0 8;plain 0 0 1;seep 3 9 0 0;seep 7 9 0 0");
        long[][] rows = {{0, 5, 1, 3, 0, 0, 3}, {1, 6, 2, 3, 0, 0, 7}, {2, 7, 3, 9, 0, 0, 7},
            {3, 8, 0, 8, 0, 0, NONE}, {0, 0, 0, 1, 0, 0, NONE}};
        for (int child = 0; child < rows.length; child++) {
            for (int what = 0; what < 7; what++) {
                due("child(" + child + ", " + what + ")", x.child(child, what), rows[child][what]);
            }
        }
        x.go(3);
        due("ear of the tired at 3", x.child(1, 3), 3);
        x.go(1);
        due("ear of the tired at 4", x.child(1, 3), 2);
        due("ear of the plain at 4", x.child(0, 3), 3);
        x.go(7);
        due("ear of the tired at 11", x.child(1, 3), 1);
        x.go(99);
        due("ear of the tired at 110", x.child(1, 3), 0);
        x.fill(7);
        x.fill(3);
        due("a hoaxer tells where he is", x.child(2, 6), x.child(2, 1));
        due("child(0, 6) all filled", x.child(0, 6), NONE);
        due("child(5, 0)", x.child(5, 0), UNKNOWN);
        due("child(0, 7)", x.child(0, 7), OUTSIDE);
        due("child(0, -1)", x.child(0, -1), OUTSIDE);
        for (int far : FAR) {
            due("child(far, far)", x.child(far, far), UNKNOWN);
            due("child(0, far)", x.child(0, far), OUTSIDE);
        }
        x = told("plain 5 0 1;seep 6 9 0 0;seep 4 9 0 0;seep 5 99 9 0");
        x.go(1);
        due("a broken one is heard too", x.child(0, 6), 5);
        x.fill(5);
        due("of several the least YARD", x.child(0, 6), 4);
    }

    private static void kinds() {
        promise = 9;
        DikeWatch x = told("plain 5 1 3;tired 5 1 3;hoax 5 1 3;deaf 5 1 3;seep 5 9 0 0;seep 8 9 0 0;seep 9 9 0 0");
        long[][] rows = {{3, 3, NOT, NOT, NOT}, {3, 3, 3, NOT, NOT}, {0, NOT, NOT, 0, NOT}, {0, NOT, NOT, NOT, 0}};
        for (int child = 0; child < 4; child++) {
            for (int kind = 0; kind < 5; kind++) {
                due("as(" + child + ", " + kind + ")", x.as(child, kind), rows[child][kind]);
            }
            due("as(child, 5)", x.as(child, 5), OUTSIDE);
            due("as(child, -1)", x.as(child, -1), OUTSIDE);
        }
        due("as(4, 5)", x.as(4, 5), UNKNOWN);
        due("as(-1, 0)", x.as(-1, 0), UNKNOWN);
        x.go(4);
        due("plain at 9", x.as(0, 0), 6);
        due("tired at 9, taken as PLAIN, hears as a tired one", x.as(1, 1), 6);
        x.go(4);
        due("tired at 9, going back, ear 1", x.as(1, 0), 6);
        x.fill(9);
        due("none that is FILLED", x.as(1, 0), 2);
    }

    private static void goes() {
        promise = 10;
        DikeWatch x = told("dike 5;tide 1 5;seep 0 95 2 5;seep 1 1 9 6;plain 4 1 0;plain 0 3 0;plain 2 0 0");
        due("go(0)", x.go(0), OUTSIDE);
        due("go(100)", x.go(100), OUTSIDE);
        due("go(-1)", x.go(-1), OUTSIDE);
        due("go(1)", x.go(1), 1);
        due("no growth at tide 0", x.seep(0, 1), 95);
        due("at the end he turns round ahead of a step", x.child(0, 1), 3);
        due("to lesser", x.child(0, 4), 1);
        due("three steps", x.child(1, 1), 3);
        due("to greater", x.child(1, 4), 0);
        due("go(1)", x.go(1), 2);
        due("growth at tide 5", x.seep(0, 1), 97);
        due("none below its LEVEL", x.seep(1, 1), 1);
        due("3, 4, 3, 2", x.child(1, 1), 2);
        due("turned", x.child(1, 4), 1);
        due("go(2)", x.go(2), 4);
        due("at 0, not turned yet", x.child(0, 1), 0);
        due("at 0, not turned yet", x.child(0, 4), 1);
        due("go(1)", x.go(1), 5);
        due("turned at 0", x.child(0, 1), 1);
        due("turned at 0", x.child(0, 4), 0);
        due("go(21)", x.go(21), 26);
        due("to 100 at most", x.seep(0, 1), 100);
        due("pace 0", x.child(2, 1), 2);
        for (int i = 0; i < 100; i++) {
            x.go(99);
        }
        due("HOURS", x.count(3), 26 + 99 * 100);
        due("go to above 9999", x.go(74), FULL);
        due("outside comes first", x.go(100), OUTSIDE);
        due("nothing changed", x.count(3), 9926);
        due("go to 9999", x.go(73), 9999);
        due("no hour more", x.go(1), FULL);
    }

    private static void fills() {
        promise = 11;
        String text = "seep 3 50 9 0;seep 3 99 9 0;seep 6 50 0 0;plain 3 0 0;tired 5 0 2;hoax 11 0 0;deaf 3 0 9;hoax 2 0 0";
        DikeWatch x = told(text);
        due("fill(12)", x.fill(12), UNKNOWN);
        due("fill(-1)", x.fill(-1), UNKNOWN);
        due("nothing there", x.fill(4), 0);
        due("fill(3): 9, 6 by one who tells 6, 1 by a hoaxer at 11, 0, 8", x.fill(3), 24);
        int[] paid = {9, 6, 1, 0, 8};
        for (int child = 0; child < 5; child++) {
            due("ORANGES of " + child, x.child(child, 5), paid[child]);
        }
        due("all there are FILLED", x.count(4), 3);
        due("nobody is paid again", x.fill(3), 0);
        x.go(5);
        due("SIZE stays", x.seep(0, 1), 50);
        due("fill(6): 9 of the tired (ear 1), 4, 5", x.fill(6), 18);
        due("ORANGES add up", x.child(1, 5), 15);
        due("who hears none is not paid", x.child(0, 5), 9);
        tell(x, "dike 24;seep 3 99 9 0;seep 3 50 9 0;hoax 23 0 0;seep 4 99 9 0;hoax 13 0 0;hoax 12 0 0");
        x.go(1);
        due("broken: FILLED, not paid", x.fill(4), 0);
        due("broken: FILLED", x.count(4), 4);
        due("one was not broken; 0 at least", x.fill(3), 0);
        due("both are FILLED", x.count(4), 7);
        for (int far : FAR) {
            due("fill(far)", x.fill(far), UNKNOWN);
        }
        x = told("dike 24;seep 3 99 9 0;seep 3 50 9 0;hoax 11 0 0");
        x.go(1);
        due("one was not broken", x.fill(3), 1);
    }

    private static void keepsAndBacks() {
        promise = 12;
        DikeWatch x = told("seep 3 50 9 0;seep 11 1 1 1;plain 10 1 9");
        due("keep(-1)", x.keep(-1), UNKNOWN);
        due("keep(2)", x.keep(2), UNKNOWN);
        due("keep(0)", x.keep(0), 0);
        x.go(3);
        x.fill(3);
        x.seen(1, 1, 1);
        due("keep(1)", x.keep(1), 3);
        promise = 13;
        due("back(2)", x.back(2), UNKNOWN);
        due("back(-1)", x.back(-1), UNKNOWN);
        write(x, "dry");
        due("back(0)", x.back(0), 0);
        due("HOURS", x.count(3), 0);
        due("SIZE", x.seep(0, 1), 50);
        due("FILLED", x.count(4), 0);
        due("YARD", x.child(0, 1), 10);
        due("where he goes", x.child(0, 4), 0);
        due("ORANGES", x.child(0, 5), 0);
        due("SEEN stays", x.count(6), 1);
        due("THE TEXT stays", x.count(7), 3);
        due("back(1)", x.back(1), 3);
        due("SIZE", x.seep(0, 1), 77);
        due("FILLED", x.count(4), 1);
        due("YARD", x.child(0, 1), 9);
        due("where he goes", x.child(0, 4), 1);
        due("ORANGES: he told 11", x.child(0, 5), 1);
        x.go(1);
        due("kept still", x.back(1), 3);
        due("kept anew", x.keep(0), 3);
        due("back(0)", x.back(0), 3);
        due("dike()", x.dike(), 1);
        due("back(0) behind a text", x.back(0), NOT);
        due("back(1) behind a text", x.back(1), NOT);
        due("keep(1)", x.keep(1), 0);
        due("back(0), the other is kept", x.back(0), NOT);
        for (int far : FAR) {
            due("keep(far)", x.keep(far), UNKNOWN);
            due("back(far)", x.back(far), UNKNOWN);
        }
    }

    private static void laters() {
        promise = 14;
        DikeWatch x = told("tide 0 3;seep 3 91 5 3;seep 5 10 1 0;plain 0 1 1;tired 11 0 9");
        due("later(0, 0, 0)", x.later(0, 0, 0), 91);
        due("later(0, 1, 0)", x.later(0, 1, 0), 96);
        due("later(0, 12, 0)", x.later(0, 12, 0), 96);
        due("later(0, 13, 0)", x.later(0, 13, 0), 100);
        due("later(1, 99, 0)", x.later(1, 99, 0), 100);
        due("later(0, 0, 1)", x.later(0, 0, 1), 0);
        due("later(0, 11, 1)", x.later(0, 11, 1), 11);
        due("later(0, 99, 1)", x.later(0, 99, 1), 11);
        due("later(0, 98, 1)", x.later(0, 98, 1), 10);
        due("later(0, 2, 2)", x.later(0, 2, 2), 1);
        due("later(0, 4, 2)", x.later(0, 4, 2), 3);
        due("later(1, 7, 2)", x.later(1, 7, 2), 3);
        due("later(1, 8, 2)", x.later(1, 8, 2), 2);
        due("later(1, 16, 2)", x.later(1, 16, 2), 0);
        due("nothing changes", x.count(3), 0);
        due("nothing changes", x.child(0, 1), 0);
        x.go(11);
        x.fill(5);
        due("from now: hour 11, then 0", x.later(0, 2, 0), 100);
        due("what is FILLED does not grow", x.later(1, 9, 0), 21);
        due("what is FILLED is not heard", x.later(0, 6, 2), 0);
        due("the tired one: 9 less 3", x.later(1, 1, 2), 0);
        due("later(2, 0, 0)", x.later(2, 0, 0), UNKNOWN);
        due("later(2, 0, 1)", x.later(2, 0, 1), UNKNOWN);
        due("later(-1, 100, 2)", x.later(-1, 100, 2), UNKNOWN);
        due("what comes first", x.later(2, 0, 3), OUTSIDE);
        due("what comes first", x.later(2, 0, -1), OUTSIDE);
        due("later(0, -1, 0)", x.later(0, -1, 0), OUTSIDE);
        due("later(0, 100, 2)", x.later(0, 100, 2), OUTSIDE);
        tell(x, "school");
        due("a seep is no child", x.later(0, 0, 1), UNKNOWN);
        due("a seep", x.later(0, 0, 0), 91);
    }

    private static void breaking() {
        promise = 15;
        DikeWatch x = told("tide 2 9;seep 0 99 1 9;seep 0 99 0 0;seep 0 1 1 9;seep 0 16 1 9;seep 0 17 1 9;seep 1 1 3 0");
        due("in the third hour", x.breaks(0), 3);
        due("no growth", x.breaks(1), NONE);
        due("only in 1179 hours", x.breaks(2), NONE);
        due("84 growths: 999", x.breaks(3), 83 * 12 + 3);
        due("83 growths", x.breaks(4), 82 * 12 + 3);
        due("33 growths", x.breaks(5), 33);
        x.go(3);
        due("broken now", x.breaks(0), 0);
        due("84 growths less one", x.breaks(3), 83 * 12);
        x.fill(1);
        due("FILLED", x.breaks(5), NOT);
        x.fill(0);
        due("FILLED and broken", x.breaks(0), NOT);
        due("breaks(6)", x.breaks(6), UNKNOWN);
        for (int far : FAR) {
            due("breaks(far)", x.breaks(far), UNKNOWN);
        }
        tell(x, "dike 4;tide 3 9;seep 0 16 1 9;seep 0 17 1 9");
        due("84 growths: 1000 is beyond", x.breaks(0), NONE);
        due("83 growths", x.breaks(1), 988);
    }

    private static void misses() {
        promise = 16;
        DikeWatch x = told("tide 0 1;seep 3 98 1 0;seep 2 98 1 0;seep 9 99 0 0;seep 1 99 9 5;plain 1 1 0;tired 8 0 5;hoax 3 0 9;deaf 3 0 9");
        due("nobody", x.missed(0), 3);
        due("in 2 hours he is at 3, too late", x.missed(1), 1);
        due("an ear of 5 from 8", x.missed(2), 2);
        due("both", x.missed(3), 0);
        due("a hoaxer and a deaf one", x.missed(12), 3);
        due("missed(16)", x.missed(16), UNKNOWN);
        due("missed(-1)", x.missed(-1), UNKNOWN);
        for (int far : FAR) {
            due("missed(far)", x.missed(far), UNKNOWN);
        }
        x.fill(2);
        due("not what is FILLED", x.missed(0), 1);
        x.go(1);
        due("not yet", x.missed(0), 1);
        x.go(1);
        due("not what is broken now", x.missed(0), 0);
        x = told("seep 3 98 1 0;seep 2 98 1 0;seep 11 50 1 0;plain 1 1 0;plain 9 0 3");
        due("too late for 3 while 11 is waited for", x.missed(1), 1);
        due("what he heard first counts on", x.missed(3), 1);
        due("none is heard in time", x.watch(0), NONE);
        x = told("seep 0 97 1 0;tired 9 0 9;tired 3 1 9");
        due("now is soon enough", x.missed(1), 0);
        x = told("tide 8 1;seep 9 99 1 1;tired 3 0 6;tired 3 0 5;plain 1 1 0");
        due("heard now, an ear of 6", x.missed(1), 0);
        due("never by an ear of 5", x.missed(2), 1);
        due("at 9 in 8 hours, it breaks in 9", x.missed(4), 0);
        x.go(8);
        due("the tired ear is 4 now", x.missed(1), 1);
    }

    private static void watches() {
        promise = 17;
        DikeWatch x = told("seep 2 90 1 0;seep 5 90 1 0;seep 9 90 1 0;plain 9 0 0;plain 5 0 0;plain 4 0 2;plain 2 0 0;plain 7 0 2");
        due("two", x.watch(0), 2);
        due("{0, 2} is 5, {2, 4} is 20, {3, 4} is 24", x.watch(1), 5);
        due("watch(2)", x.watch(2), OUTSIDE);
        due("watch(-1)", x.watch(-1), OUTSIDE);
        x.fill(2);
        due("one", x.watch(0), 1);
        due("{4}", x.watch(1), 16);
        x.fill(5);
        x.fill(9);
        due("nobody is needed", x.watch(0), 0);
        due("nobody is needed", x.watch(1), 0);
        x = told("seep 2 90 1 0;hoax 2 0 9;deaf 2 0 9");
        due("none", x.watch(0), NONE);
        due("none", x.watch(1), NONE);
        tell(x, "plain 2 0 0;plain 3 0 1");
        due("the least of several", x.watch(1), 4);
        x = told("seep 2 90 1 0");
        due("no children", x.watch(0), NONE);
    }

    private static void orders() {
        promise = 18;
        DikeWatch x = told("seep 4 98 1 0;seep 8 95 1 0;seep 5 90 1 0;seep 5 99 0 0;seep 0 1 0 0;seep 1 1 0 0");
        due("in 1 HOUR at 4", x.order(4, 1, NONE), 0);
        due("in 2 HOURS at 4, broken then", x.order(3, 1, NONE), 1);
        due("in 5 at 8, broken then", x.order(4, 2, NONE), 1);
        due("in 4 at 8", x.order(5, 2, NONE), 0);
        due("0 in 1, 2 in 3, 1 in 7: one is lost", x.order(4, 7, NONE), 1);
        due("0, 1 in 6 lost, 2 in 10 lost; 0, 2, 1: one", x.order(4, 7, 1), 2);
        due("1, 2: 1 in 1, 2 in 5", x.order(8, 6, 0), 1);
        due("none is lost: 1, 2 is the first of it", x.order(8, 6, 1), 2);
        due("a fill an HOUR, each by itself", x.order(5, 12, NONE), 0);
        due("the first", x.order(5, 12, 0), 2);
        due("the second", x.order(5, 12, 1), 3);
        due("there are not so many", x.order(5, 12, 2), NONE);
        due("there are not so many", x.order(5, 12, Integer.MAX_VALUE), NONE);
        DikeWatch y = told("dike 24;seep 12 70 1 0;seep 2 86 1 0;seep 3 86 1 0;seep 1 86 1 0;seep 13 69 1 0");
        due("2, 1, 3 or 3, 1, 2 .. ahead of 12 and 13", y.order(2, 31, NONE), 0);
        int[] row = {1, 2, 3, 0, 4};
        for (int i = 0; i < 5; i++) {
            due("1 in 1, 2 in 3, 3 in 6, 0 in 18, 4 in 20: SEEP " + i, y.order(2, 31, i), row[i]);
        }
        due("all five broken", told("seep 0 99 9 0;seep 0 99 9 0;seep 0 99 9 0;seep 0 99 9 0;seep 0 99 9 0").order(0, 31, NONE), 5);
        due("an empty set", x.order(5, 0, NONE), 0);
        due("an empty set", x.order(5, 0, 0), NONE);
        due("five", x.order(5, 62, 4), 5);
        due("six", x.order(5, 63, 0), NOT);
        due("i comes ahead of it", x.order(5, 63, -2), OUTSIDE);
        due("no such seep", x.order(5, 64, -2), UNKNOWN);
        due("no such seep", x.order(5, -1, 0), UNKNOWN);
        due("no such yard", x.order(12, 0, -2), UNKNOWN);
        due("no such yard", x.order(-1, 0, 0), UNKNOWN);
        x.fill(0);
        due("one is FILLED", x.order(5, 17, 0), NOT);
        x.go(2);
        due("broken now: lost, filled all the same", x.order(4, 1, NONE), 1);
        due("it stands in the row", x.order(4, 1, 0), 0);
    }

    private static void odds(DikeWatch x, int seep, int t, int p, long above, long below) {
        due("storms(" + seep + ", " + t + ", " + p + ", 0)", x.storms(seep, t, p, 0), above);
        due("storms(" + seep + ", " + t + ", " + p + ", 1)", x.storms(seep, t, p, 1), below);
    }

    private static void stormy() {
        promise = 19;
        DikeWatch x = told("seep 0 99 1 9;seep 1 98 1 9;seep 2 99 0 0;seep 3 82 1 5;seep 4 81 1 5;seep 5 90 9 0");
        odds(x, 0, 0, 10, 0, 1);
        odds(x, 0, 1, 3, 3, 10);
        odds(x, 0, 1, 5, 1, 2);
        odds(x, 0, 1, 0, 0, 1);
        odds(x, 0, 18, 0, 0, 1);
        odds(x, 0, 1, 10, 1, 1);
        odds(x, 0, 2, 3, 51, 100);
        odds(x, 1, 2, 3, 9, 100);
        odds(x, 1, 3, 5, 1, 2);
        odds(x, 1, 1, 10, 0, 1);
        odds(x, 2, 18, 10, 0, 1);
        odds(x, 3, 18, 1, 1, 1000000000000000000L);
        odds(x, 3, 18, 9, 150094635296999121L, 1000000000000000000L);
        odds(x, 3, 17, 9, 0, 1);
        odds(x, 3, 18, 10, 1, 1);
        odds(x, 4, 18, 10, 0, 1);
        odds(x, 5, 2, 2, 1, 25);
        odds(x, 0, 18, 9, 999999999999999999L, 1000000000000000000L);
        due("storms(6, ..)", x.storms(6, 19, 0, 0), UNKNOWN);
        due("storms(-1, ..)", x.storms(-1, 0, 0, 0), UNKNOWN);
        x.fill(1);
        due("t 19", x.storms(1, 19, 0, 0), OUTSIDE);
        due("t -1", x.storms(1, -1, 0, 0), OUTSIDE);
        due("p 11", x.storms(1, 0, 11, 0), OUTSIDE);
        due("p -1", x.storms(1, 0, -1, 0), OUTSIDE);
        due("part 2", x.storms(1, 0, 0, 2), OUTSIDE);
        due("part -1", x.storms(1, 0, 0, -1), OUTSIDE);
        due("FILLED", x.storms(1, 0, 0, 0), NOT);
        x.go(2);
        odds(x, 5, 2, 2, 1, 1);
        odds(x, 5, 0, 0, 1, 1);
        for (int far : FAR) {
            due("storms(far, ..)", x.storms(far, far, far, far), UNKNOWN);
            due("storms(0, far, ..)", x.storms(0, far, 0, 0), OUTSIDE);
            due("storms(0, 0, far, 0)", x.storms(0, 0, far, 0), OUTSIDE);
            due("storms(0, 0, 0, far)", x.storms(0, 0, 0, far), OUTSIDE);
        }
    }

    private static void guards() {
        promise = 20;
        DikeWatch x = told("seep 2 9 0 0;seep 6 99 9 0;seep 9 9 0 0;seep 9 9 0 0;hoax 0 0 0");
        due("ear 0: both at 9", x.guard(0, 0), 9);
        due("ear 0: both at 9", x.guard(0, 1), 12);
        due("ear 2: 7 or 8", x.guard(2, 0), 7);
        due("ear 2", x.guard(2, 1), 14);
        due("ear 4: 5 or 6 hear all", x.guard(4, 0), 5);
        due("ear 9: all from 0", x.guard(9, 0), 0);
        due("ear 9", x.guard(9, 1), 15);
        due("ear 1 from 1: at 2 alone", told("seep 2 9 0 0").guard(1, 0), 1);
        x.go(1);
        due("a broken one is heard", x.guard(2, 1), 14);
        x.fill(9);
        due("not what is FILLED", x.guard(0, 0), 2);
        due("not what is FILLED", x.guard(9, 1), 3);
        x.fill(2);
        x.fill(6);
        due("none is left", x.guard(9, 0), 0);
        due("none is left", x.guard(9, 1), 0);
        due("guard(10, 0)", x.guard(10, 0), OUTSIDE);
        due("guard(-1, 0)", x.guard(-1, 0), OUTSIDE);
        due("guard(0, 2)", x.guard(0, 2), OUTSIDE);
        due("guard(0, -1)", x.guard(0, -1), OUTSIDE);
        for (int far : FAR) {
            due("guard(far, 0)", x.guard(far, 0), OUTSIDE);
            due("guard(0, far)", x.guard(0, far), OUTSIDE);
        }
    }

    private static void seens() {
        promise = 21;
        DikeWatch x = new DikeWatch();
        due("seen(12, 10, 2)", x.seen(12, 10, 2), UNKNOWN);
        due("seen(-1, 0, 0)", x.seen(-1, 0, 0), UNKNOWN);
        due("seen(0, 10, 0)", x.seen(0, 10, 0), OUTSIDE);
        due("seen(0, -1, 0)", x.seen(0, -1, 0), OUTSIDE);
        due("seen(0, 0, 2)", x.seen(0, 0, 2), OUTSIDE);
        due("seen(0, 0, -1)", x.seen(0, 0, -1), OUTSIDE);
        for (int far : FAR) {
            due("seen(far, 0, 0)", x.seen(far, 0, 0), UNKNOWN);
            due("seen(0, far, 0)", x.seen(0, far, 0), OUTSIDE);
            due("seen(0, 0, far)", x.seen(0, 0, far), OUTSIDE);
        }
        due("nothing was seen", x.where(), 4095);
        for (int i = 1; i <= 9; i++) {
            due("seen(11, 9, 1)", x.seen(11, 9, 1), i);
        }
        due("a tenth", x.seen(0, 0, 0), FULL);
        due("outside first", x.seen(0, 10, 0), OUTSIDE);
        due("nothing changed", x.where(), 4095 - 3);
    }

    private static void paids() {
        promise = 22;
        DikeWatch x = new DikeWatch();
        due("paid(12, 10)", x.paid(12, 10), UNKNOWN);
        due("paid(-1, 0)", x.paid(-1, 0), UNKNOWN);
        due("paid(0, 10)", x.paid(0, 10), OUTSIDE);
        due("paid(0, -1)", x.paid(0, -1), OUTSIDE);
        for (int far : FAR) {
            due("paid(far, 0)", x.paid(far, 0), UNKNOWN);
            due("paid(0, far)", x.paid(0, far), OUTSIDE);
        }
        due("paid(0, 0)", x.paid(0, 0), 1);
        due("nine YARDS off or more", x.where(), 7 << 9);
        for (int i = 2; i <= 9; i++) {
            due("paid(2, 1)", x.paid(2, 1), i);
        }
        due("where()", x.where(), 1 << 10);
        due("a tenth", x.paid(2, 9), FULL);
        due("of both", x.seen(2, 9, 0), FULL);
        due("outside first", x.paid(2, 10), OUTSIDE);
    }

    private static void forgets() {
        promise = 23;
        DikeWatch x = told("dike 24");
        due("forget() of nothing", x.forget(), 0);
        x.seen(0, 0, 1);
        x.paid(5, 5);
        due("forget()", x.forget(), 2);
        due("forget() again", x.forget(), 0);
        due("where()", x.where(), (1 << 24) - 1);
        due("count(6)", x.count(6), 0);
    }

    private static void wheres() {
        promise = 24;
        DikeWatch x = told("dike 10");
        due("anywhere", x.where(), 1023);
        x.seen(4, 2, 0);
        due("not 2 .. 6", x.where(), 1023 - 124);
        x.seen(5, 4, 1);
        due("1 .. 9 of these", x.where(), 898);
        x.paid(4, 6);
        due("1 or 7", x.where(), 130);
        x.paid(1, 9);
        due("1", x.where(), 2);
        x.seen(1, 0, 0);
        due("at no YARD", x.where(), 0);
        tell(x, "dike 24");
        due("all of 24", x.where(), (1 << 24) - 1);
        x.paid(12, 0);
        due("0 .. 3, 21 .. 23", x.where(), 15 | 7 << 21);
    }

    private static void nexts() {
        promise = 25;
        DikeWatch x = new DikeWatch();
        due("an ear of 0: 1 and 11, everywhere", x.next(0), 0);
        due("an ear of 2: 5 and 7 from 2 on", x.next(2), 2);
        due("an ear of 3: 6 and 6 from 2", x.next(3), 2);
        due("an ear of 5: 6 and 6 from 0", x.next(5), 0);
        due("an ear of 9: 10 and 2 from 0; none is better", x.next(9), 0);
        x.seen(8, 1, 1);
        due("7, 8, 9: an ear of 1 at 6 hears 7", x.next(1), 6);
        due("an ear of 0", x.next(0), 7);
        due("an ear of 6 at 1 hears 7", x.next(6), 1);
        x.seen(8, 1, 0);
        due("at no YARD", x.next(3), NONE);
        due("outside first", x.next(10), OUTSIDE);
        due("next(-1)", x.next(-1), OUTSIDE);
        for (int far : FAR) {
            due("next(far)", x.next(far), OUTSIDE);
        }
    }

    private static void counts() {
        promise = 26;
        DikeWatch x = told("dike 7;seep 1 99 9 0;seep 2 1 0 0;seep 3 99 9 0;plain 0 0 0");
        x.go(3);
        x.fill(2);
        x.fill(3);
        x.seen(0, 0, 0);
        x.paid(0, 0);
        write(x, "dike 5;dike");
        int[] want = {7, 3, 1, 3, 6, 5, 2, 11};
        for (int what = 0; what < want.length; what++) {
            due("count(" + what + ")", x.count(what), want[what]);
        }
        due("count(8)", x.count(8), OUTSIDE);
        due("count(-1)", x.count(-1), OUTSIDE);
        for (int far : FAR) {
            due("count(far)", x.count(far), OUTSIDE);
        }
    }
}
