/** The document's boundary cases of THE TEXT: how much of it there is, what can stand in it, where its FAULT is. */
public final class TextBoundariesTest {
    private static final int NONE = Due.NONE, UNKNOWN = Due.UNKNOWN, OUTSIDE = Due.OUTSIDE, NOT = Due.NOT, FULL = Due.FULL;

    public static void main(String[] args) throws ReflectiveOperationException {
        Due.run(TextBoundariesTest.class);
    }

    // ---- write, erase

    @Says("n (1 .. 8) bytes more of THE TEXT")
    static void oneToEightBytes() {
        DikeWatch x = new DikeWatch();
        Due.due("write(.., 1)", x.write(' ', 1), 1);
        Due.due("write(.., 8)", x.write(0x2020202020202020L, 8), 9);
        for (int n : new int[] {0, 9, -1, -8, 256, 264, Due.LEAST, Due.MOST}) {
            Due.due("write(.., " + n + ")", x.write(' ', n), OUTSIDE);
        }
        Due.due("count(7)", x.count(7), 9);
    }

    @Says("byte i being bytes >> 8 i & 255: how many it has.")
    static void theLowestByteComesFirst() {
        DikeWatch x = new DikeWatch();
        Due.due("write(dry, 3)", x.write('d' | 'r' << 8 | 'y' << 16, 3), 3);
        Due.due("fault()", x.fault(), NONE);
        Due.due("write(.., 2)", x.write(';' | 'd' << 8, 2), 5);
        Due.due("write(.., 2)", x.write('r' | 'y' << 8, 2), 7);
        Due.due("dike()", x.dike(), 2);
    }

    @Says("byte i being bytes >> 8 i & 255: how many it has.")
    static void bytesAboveTheNthAreLeftOut() {
        DikeWatch x = new DikeWatch();
        Due.due("write(-1 but for its lowest three, 3)", x.write(-1L << 24 | 'd' | 'r' << 8 | 'y' << 16, 3), 3);
        Due.due("dike()", x.dike(), 1);
    }

    @Says("byte i being bytes >> 8 i & 255: how many it has.")
    static void theEighthByteIsTheHighest() {
        DikeWatch x = new DikeWatch();
        Due.due("write(.., 8)", x.write(0xFF20202020202020L, 8), 8);
        Due.due("fault()", x.fault(), 7);
        x.erase();
        Due.due("write('    dike', 8)", x.write((long) 'e' << 56 | (long) 'k' << 48 | (long) 'i' << 40 | (long) 'd' << 32 | 0x20202020L, 8), 8);
        Due.due("write('4', 1)", x.write('4', 1), 9);
        Due.due("dike()", x.dike(), 1);
        Due.due("count(0)", x.count(0), 4);
    }

    @Says("THE TEXT is a row of bytes, 200 at most")
    static void twoHundredBytesAreRead() {
        Due.fault("dry" + " ".repeat(197), NONE);
        Due.fault(" ".repeat(197) + "dry", NONE);
        Due.fault(" ".repeat(199) + "7", 199);
        Due.fault(" ".repeat(200), 200);
        Due.fault("x".repeat(200), 0);
        Due.fault("dike " + "4".repeat(195), 5);
    }

    @Says("OUTSIDE; FULL.")
    static void whatDoesNotFitIsNotWritten() {
        DikeWatch x = new DikeWatch();
        Due.write(x, "dry" + " ".repeat(190));
        Due.due("write(.., 8) to 201", x.write(-1L, 8), FULL);
        Due.due("write(.., 9)", x.write(-1L, 9), OUTSIDE);
        Due.due("count(7)", x.count(7), 193);
        Due.due("write(.., 7) to 200", x.write(0x20202020202020L, 7), 200);
        Due.due("write(.., 1) to 201", x.write('x', 1), FULL);
        Due.due("write(.., 0)", x.write('x', 0), OUTSIDE);
        Due.due("write(.., 9)", x.write('x', 9), OUTSIDE);
        Due.due("count(7)", x.count(7), 200);
        Due.due("dike()", x.dike(), 1);
        Due.due("write(.., 1) when it is empty again", x.write('x', 1), 1);
    }

    @Says("THE TEXT is empty: how many bytes it had.")
    static void erasedWhenEmptyAndWhenFull() {
        DikeWatch x = new DikeWatch();
        Due.due("erase()", x.erase(), 0);
        Due.write(x, "y".repeat(200));
        Due.due("erase()", x.erase(), 200);
        Due.due("erase()", x.erase(), 0);
        Due.due("count(7)", x.count(7), 0);
        Due.due("fault()", x.fault(), 0);
        Due.write(x, "dry" + " ".repeat(197));
        Due.due("dike()", x.dike(), 1);
    }

    // ---- lines

    @Says("LINES with ; (59) between, 1 to 12")
    static void oneToTwelveLines() {
        Due.fault("dry", NONE);
        Due.fault(Due.lines("dry", 11), NONE);
        Due.fault(Due.lines("dry", 12), NONE);
        Due.fault(Due.lines("dry", 13), 47);
    }

    @Says("LINES with ; (59) between, 1 to 12")
    static void onlyThatSignStandsBetween() {
        Due.fault("dry:dry", 3);
        Due.fault("dry<dry", 3);
        Due.fault("dry,dry", 3);
        Due.fault("dry\ndry", 3);
        Due.fault("dry dry", 4);
        Due.fault("dry" + (char) (59 + 128) + "dry", 3);
    }

    @Says("LINES with ; (59) between, 1 to 12")
    static void noLineIsEmpty() {
        Due.fault(";", 0);
        Due.fault(";dry", 0);
        Due.fault("dry;;dry", 4);
        Due.fault("dry; ;dry", 5);
        Due.fault("dry;", 4);
        Due.fault("dry;  ", 6);
    }

    @Says("(an empty TEXT ends too soon; behind the 12th no ; can stand)")
    static void anEmptyTextEndsTooSoon() {
        DikeWatch x = new DikeWatch();
        Due.due("fault()", x.fault(), 0);
        Due.due("dike()", x.dike(), NOT);
        Due.fault(" ", 1);
        Due.fault("   ", 3);
    }

    @Says("(an empty TEXT ends too soon; behind the 12th no ; can stand)")
    static void behindTheTwelfthThereIsNoMore() {
        String twelve = Due.lines("tide 0 1", 12);
        Due.fault(twelve + "  ", NONE);
        Due.fault(twelve + ";", 107);
        Due.fault(twelve + "  ;", 109);
        Due.fault(twelve + " ; dry", 108);
        Due.fault(twelve + " dry", 108);
        Due.fault(twelve + " 1", 108);
    }

    @Says("each is one of: dike N. tide H V. seep Y S G L. plain Y P E. (or tired, hoax, deaf in place of plain) dry. school.")
    static void wholeWordsAlone() {
        for (String line : new String[] {"dike 4", "tide 0 0", "seep 0 1 0 0", "plain 0 0 0", "tired 0 0 0", "hoax 0 0 0",
            "deaf 0 0 0", "dry", "school"}) {
            Due.fault(line, NONE);
            Due.fault(" x" + line, 1);
            Due.fault(" " + line.substring(1), 1);
            Due.fault(" z" + line.substring(1), 1);
            Due.fault(" " + line.replaceFirst("([a-z]+)", "$1s"), 1);
            Due.fault(" " + line.replaceFirst("[a-z]( |$)", "$1"), 1);
            Due.fault(line + " 0", line.length() + 1);
            Due.fault(line + " dry", line.length() + 1);
        }
        Due.fault("child 0 0 0", 0);
        Due.fault("hoaxer 0 0 0", 0);
        Due.fault("leak 0 1 0 0", 0);
    }

    // ---- bounds

    @Says("THE DIKE has YARDS 0 .. n less 1 (n 4 ..")
    static void fourYardsAtLeast() {
        Due.fault("dike 4", NONE);
        Due.fault("dike 3", 5);
        Due.fault("dike 0", 5);
        Due.fault("dike 03", 5);
    }

    @Says("24; 12 at first).")
    static void twentyFourYardsAtMost() {
        Due.fault("dike 24", NONE);
        Due.fault("dike 25", 5);
        Due.fault("dike 99", 5);
        Due.fault("seep 11 1 0 0", NONE);
        Due.fault("seep 12 1 0 0", 5);
    }

    @Says("TIDE is told by HOURS of the day, 0 .. 11, again and again: 0 .. 9 (0 at first).")
    static void tidesToNine() {
        Due.fault("tide 0 0;tide 0 9", NONE);
        Due.fault("tide 0 10", 7);
        Due.fault("tide 0 99", 7);
    }

    @Says("Y a YARD that there is behind the LINES ahead, H 0 .. 11;")
    static void hoursToEleven() {
        Due.fault("tide 0 0;tide 11 0", NONE);
        Due.fault("tide 12 0", 5);
        Due.fault("tide 24 0", 5);
    }

    @Says(": at a YARD, of a SIZE (1 .. 99), GROWTH (0 .. 9), LEVEL (0 .. 9).")
    static void numbersOfASeep() {
        Due.fault("seep 0 1 0 0", NONE);
        Due.fault("seep 0 99 9 9", NONE);
        Due.fault("seep 0 0 0 0", 7);
        Due.fault("seep 0 00 0 0", 7);
        Due.fault("seep 0 100 0 0", 7);
        Due.fault("seep 0 99 10 0", 10);
        Due.fault("seep 0 99 9 10", 12);
    }

    @Says("at a YARD, of a PACE (0 .. 3), an EAR (0 .. 9).")
    static void numbersOfAChild() {
        for (String kind : new String[] {"plain", "tired", "hoax", "deaf"}) {
            int first = kind.length() + 1;
            Due.fault(kind + " 0 0 0;" + kind + " 11 3 9", NONE);
            Due.fault(kind + " 12 0 0", first);
            Due.fault(kind + " 0 4 0", first + 2);
            Due.fault(kind + " 0 3 10", first + 4);
        }
    }

    @Says("dike: N YARDS, all else as at first;")
    static void aDikeStartsAnew() {
        DikeWatch x = Due.told("dike 24;tide 0 9;tide 11 9;seep 23 99 9 9;deaf 23 3 9");
        Due.tell(x, "dike 12");
        int[] first = {12, 0, 0, 0, 0, 0, 0, 0};
        for (int what = 0; what < 8; what++) {
            Due.due("count(" + what + ")", x.count(what), first[what]);
        }
        Due.due("tide(0)", x.tide(0), 0);
        Due.due("tide(11)", x.tide(11), 0);
        Due.due("seep(0, 0)", x.seep(0, 0), UNKNOWN);
        Due.due("child(0, 0)", x.child(0, 0), UNKNOWN);
    }

    @Says("dike: N YARDS, all else as at first;")
    static void aDikeOfAsManyYardsStartsAnewToo() {
        DikeWatch x = Due.told("tide 5 5;seep 0 1 0 0;plain 0 0 0;dike 12;tide 6 6");
        Due.due("tide(5)", x.tide(5), 0);
        Due.due("tide(6)", x.tide(6), 6);
        Due.due("count(1)", x.count(1), 0);
        Due.due("count(2)", x.count(2), 0);
    }

    @Says("seep: SIZE S, GROWTH G, LEVEL L, a seventh cannot stand there (at its word);")
    static void aSeventhSeepInOneText() {
        String six = Due.lines("seep 0 1 0 0", 6);
        Due.fault(six, NONE);
        Due.fault(six + ";seep 0 1 0 0", 78);
        Due.fault(six + ";  seep", 80);
        Due.fault(six + ";seep 99 0", 78);
    }

    @Says("seep: SIZE S, GROWTH G, LEVEL L, a seventh cannot stand there (at its word);")
    static void aSeventhSeepInTheNextText() {
        DikeWatch x = Due.told(Due.lines("seep 0 1 0 0", 6));
        Due.fault(x, "seep 0 1 0 0", 0);
        Due.fault(x, "tide 0 0;seep 0 1 0 0", 9);
        Due.due("count(1)", x.count(1), 6);
        Due.fault(x, "dry;" + Due.lines("seep 0 1 0 0", 7), 4 + 78);
        Due.fault(x, "dry;" + Due.lines("seep 0 1 0 0", 6), NONE);
        Due.fault(x, "dike 4;" + Due.lines("seep 0 1 0 0", 6), NONE);
        Due.due("count(1)", x.count(1), 6);
    }

    @Says("plain ..: a CHILD more at Y, of PACE P, EAR E, a sixth likewise;")
    static void aSixthChildInOneText() {
        String five = "plain 0 0 0;tired 0 0 0;hoax 0 0 0;deaf 0 0 0;plain 0 0 0";
        Due.fault(five, NONE);
        for (String kind : new String[] {"plain", "tired", "hoax", "deaf"}) {
            Due.fault(five + ";" + kind + " 0 0 0", 58);
            Due.fault(five + "; " + kind, 59);
            Due.fault(five + ";" + kind + " 99 9 99", 58);
        }
    }

    @Says("plain ..: a CHILD more at Y, of PACE P, EAR E, a sixth likewise;")
    static void aSixthChildInTheNextText() {
        DikeWatch x = Due.told(Due.lines("deaf 0 0 0", 5));
        Due.fault(x, "hoax 0 0 0", 0);
        Due.fault(x, "dry;plain 0 0 0", 4);
        Due.fault(x, "school;" + Due.lines("deaf 0 0 0", 6), 7 + 55);
        Due.fault(x, "school;" + Due.lines("deaf 0 0 0", 5), NONE);
        Due.fault(x, "dike 4;" + Due.lines("tired 0 0 0", 5), NONE);
        Due.due("count(2)", x.count(2), 5);
    }

    @Says("dry: no SEEPS; school: no CHILDREN;")
    static void dryWhenFullAndWhenEmpty() {
        DikeWatch x = Due.told(Due.lines("seep 11 9 9 9", 6) + ";plain 0 0 0");
        Due.tell(x, "dry");
        Due.due("count(1)", x.count(1), 0);
        Due.due("count(2)", x.count(2), 1);
        Due.due("seep(0, 0)", x.seep(0, 0), UNKNOWN);
        Due.tell(x, "dry;dry");
        Due.due("count(1)", x.count(1), 0);
    }

    @Says("dry: no SEEPS; school: no CHILDREN;")
    static void schoolWhenFullAndWhenEmpty() {
        DikeWatch x = Due.told(Due.lines("hoax 11 3 9", 5) + ";seep 0 9 0 0");
        Due.tell(x, "school");
        Due.due("count(2)", x.count(2), 0);
        Due.due("count(1)", x.count(1), 1);
        Due.due("child(0, 0)", x.child(0, 0), UNKNOWN);
        Due.tell(x, "school;school");
        Due.due("count(2)", x.count(2), 0);
    }

    @Says("Y a YARD that there is behind the LINES ahead, H 0 .. 11;")
    static void theLastYardOfASeep() {
        Due.fault("dike 24;seep 23 1 0 0", NONE);
        Due.fault("dike 24;seep 24 1 0 0", 13);
        Due.fault("dike 4;seep 3 1 0 0", NONE);
        Due.fault("dike 4;seep 4 1 0 0", 12);
        Due.fault("dike 24;dike 4;seep 4 1 0 0", 20);
        Due.fault("dike 4;dike 24;seep 23 1 0 0", NONE);
        Due.fault("seep 12 1 0 0;dike 24", 5);
    }

    @Says("Y a YARD that there is behind the LINES ahead, H 0 .. 11;")
    static void theLastYardOfAChild() {
        Due.fault("dike 24;plain 23 0 0;tired 23 0 0;hoax 23 0 0;deaf 23 0 0", NONE);
        Due.fault("dike 4;deaf 3 0 0", NONE);
        Due.fault("dike 4;deaf 4 0 0", 12);
        Due.fault("dike 24;dike 4;hoax 4 0 0", 20);
        Due.fault("plain 12 0 0;dike 24", 6);
    }

    @Says("Y a YARD that there is behind the LINES ahead, H 0 .. 11;")
    static void yardsOfAnEarlierText() {
        DikeWatch x = Due.told("dike 20");
        Due.fault(x, "seep 19 1 0 0;deaf 19 0 0", NONE);
        Due.fault(x, "seep 20 1 0 0", 5);
        Due.fault(x, "dike 4;seep 19 1 0 0", 12);
        Due.fault(x, "seep 19 1 0 0", NONE);
        Due.due("count(0)", x.count(0), 20);
    }

    // ---- tokens

    @Says("small letters a .. z,")
    static void smallLettersAlone() {
        Due.fault("Dry", 0);
        Due.fault("drY", 0);
        Due.fault("DRY", 0);
        Due.fault("dry`", 3);
        Due.fault("dry{", 3);
        Due.fault("drya", 0);
        Due.fault("dryz", 0);
        Due.fault("dr" + (char) ('y' + 128), 0);
        Due.fault("dry" + (char) ('a' + 128), 3);
    }

    @Says("numbers of 1 or 2 digits,")
    static void oneOrTwoDigits() {
        Due.fault("dike 4", NONE);
        Due.fault("dike 04", NONE);
        Due.fault("dike 004", 5);
        Due.fault("dike 0004", 5);
        Due.fault("tide 00 00;tide 011 0", 16);
        Due.fault("seep 00 01 00 00", NONE);
        Due.fault("seep 00 001 00 00", 8);
        Due.fault("plain 00 00 00;plain 00 00 009", 27);
    }

    @Says("numbers of 1 or 2 digits,")
    static void digitsAlone() {
        Due.fault("dike /", 5);
        Due.fault("dike :", 5);
        Due.fault("dike -4", 5);
        Due.fault("dike +4", 5);
        Due.fault("dike 4.", 6);
        Due.fault("dike 1:", 5);
        Due.fault("dike 12:", 7);
        Due.fault("dike " + (char) ('4' + 128), 5);
    }

    @Says("blanks (32) may stand ahead of, between and behind TOKENS,")
    static void blanksAnywhereButInTokens() {
        Due.fault("  dike   12  ;  tide  0   9  ;  dry  ", NONE);
        Due.fault("dry ;dry; dry ; dry", NONE);
        Due.fault("d ry", 0);
        Due.fault("dike 1 2", 5);
        Due.fault("dike 12 4", 8);
    }

    @Says("blanks (32) may stand ahead of, between and behind TOKENS,")
    static void noOtherSignIsABlank() {
        for (int sign : new int[] {0, 9, 10, 13, 31, 33, 127, 160, 255}) {
            Due.fault((char) sign + "dry", 0);
            Due.fault("dry" + (char) sign, 3);
            Due.fault("dike" + (char) sign + "4", 4);
        }
    }

    @Says("none is needed but between two words, two numbers;")
    static void wordsAndNumbersNeedNoBlankBetween() {
        Due.fault("dike4;tide0 9;seep3 1 0 0;plain3 0 0;tired3 0 0;hoax3 0 0;deaf3 0 0;dry;school", NONE);
        DikeWatch x = Due.told("dike24;seep3 99 9 9");
        Due.due("count(0)", x.count(0), 24);
        Due.due("seep(0, 0)", x.seep(0, 0), 3);
        Due.fault("dike4dry", 5);
        Due.fault("dry4", 3);
    }

    @Says("none is needed but between two words, two numbers;")
    static void twoWordsOrTwoNumbersRunTogetherAreOne() {
        Due.fault("drydry", 0);
        Due.fault("dryschool", 0);
        Due.fault("tide 11", 7);
        Due.fault("tide 119", 5);
        Due.fault("tide 1 1", NONE);
        Due.fault("seep 1 111 1", 7);
    }

    // ---- the fault

    @Says("A FAULT is at the first TOKEN (a row of small letters, a row of digits, any other byte) that cannot stand there")
    static void theFirstOfSeveral() {
        Due.fault("dike 3;dike 25;x", 5);
        Due.fault("seep 12 0 10 10", 5);
        Due.fault("seep 11 0 10 10", 8);
        Due.fault("dry;dike 99;?", 9);
        Due.fault("?!", 0);
        Due.fault("dry!!", 3);
        Due.fault("dry" + (char) 0 + (char) 255, 3);
    }

    @Says("A FAULT is at the first TOKEN (a row of small letters, a row of digits, any other byte) that cannot stand there")
    static void aNumberForAWordAndAWordForANumber() {
        Due.fault("12", 0);
        Due.fault("12 dry", 0);
        Due.fault("dike dike", 5);
        Due.fault("dike ;4", 5);
        Due.fault("tide 0 dry", 7);
        Due.fault("seep 0 1 0 x0", 11);
        Due.fault("plain x", 6);
    }

    @Says("(a number out of its bounds, of more digits, also),")
    static void thePlaceIsWhereTheNumberBegins() {
        Due.fault("dike   25", 7);
        Due.fault("dike   012", 7);
        Due.fault("dike25", 4);
        Due.fault("tide 11 10;dry", 8);
        Due.fault("seep 11 9 9 99999", 12);
    }

    @Says("or at the end, if it comes too soon.")
    static void theEndBehindEachToken() {
        for (String line : new String[] {"dike 4", "tide 0 0", "seep 0 1 0 0", "plain 0 0 0", "tired 0 0 0", "hoax 0 0 0", "deaf 0 0 0"}) {
            for (int blank = line.lastIndexOf(' '); blank > 0; blank = line.lastIndexOf(' ', blank - 1)) {
                Due.fault(line.substring(0, blank), blank);
                Due.fault(line.substring(0, blank + 1), blank + 1);
                Due.fault("dry;" + line.substring(0, blank) + "   ", 4 + blank + 3);
                Due.fault(line.substring(0, blank) + ";dry", blank);
            }
        }
    }

    @Says("The place of the FAULT (the byte with which the TOKEN begins, or the length); NONE.")
    static void theFaultIsOnlyTold() {
        DikeWatch x = new DikeWatch();
        Due.write(x, "dike 20;tide 0 9;seep 19 1 1 1;deaf 0 0 0;school");
        Due.due("fault()", x.fault(), NONE);
        Due.due("fault() again", x.fault(), NONE);
        Due.due("count(0)", x.count(0), 12);
        Due.due("count(1)", x.count(1), 0);
        Due.due("count(2)", x.count(2), 0);
        Due.due("tide(0)", x.tide(0), 0);
        Due.due("count(7)", x.count(7), 48);
        Due.due("where()", x.where(), 4095);
        Due.due("dike()", x.dike(), 5);
    }

    // ---- what is done

    @Says("LINES are done in their order.")
    static void theLaterLineHasItsWay() {
        DikeWatch x = Due.told("tide 3 1;tide 3 2;seep 0 1 0 0;dry;seep 1 2 0 0;dry;seep 2 3 0 0;deaf 0 0 0;school;hoax 1 0 0");
        Due.due("tide(3)", x.tide(3), 2);
        Due.due("count(1)", x.count(1), 1);
        Due.due("seep(0, 0)", x.seep(0, 0), 2);
        Due.due("count(2)", x.count(2), 1);
        Due.due("child(0, 0)", x.child(0, 0), 2);
    }

    @Says("what earlier texts told stays.")
    static void nextTextsAddToIt() {
        DikeWatch x = Due.told("dike 5;tide 11 9;seep 4 1 1 1;tired 4 1 1");
        Due.tell(x, "tide 10 8");
        Due.tell(x, "seep 3 2 2 2;hoax 3 2 2");
        Due.due("count(0)", x.count(0), 5);
        Due.due("tide(11)", x.tide(11), 9);
        Due.due("tide(10)", x.tide(10), 8);
        Due.due("seep(0, 0)", x.seep(0, 0), 4);
        Due.due("seep(1, 0)", x.seep(1, 0), 3);
        Due.due("child(0, 0)", x.child(0, 0), 1);
        Due.due("child(1, 0)", x.child(1, 0), 2);
    }

    @Says("THE TEXT's LINES are done, and it is empty then: how many there were.")
    static void oneToTwelveAreDone() {
        DikeWatch x = Due.told("dike 24");
        Due.due("count(7)", x.count(7), 0);
        Due.due("dike() of the empty text", x.dike(), NOT);
        Due.tell(x, Due.lines("dry", 12));
        Due.due("count(7)", x.count(7), 0);
        Due.due("count(0)", x.count(0), 24);
    }

    @Says("NOT: it has a FAULT.")
    static void withAFaultNoLineIsDone() {
        DikeWatch x = Due.told("dike 6;tide 1 2;seep 5 50 5 0;seep 0 7 0 0;plain 5 1 1;hoax 2 2 2;deaf 1 0 0");
        x.go(1);
        Due.write(x, "dike 4;tide 1 1;seep 3 1 1 1;deaf 3 3 3;school;dry;dry;");
        String ahead = Due.face(x);
        Due.due("dike()", x.dike(), NOT);
        Due.same("dike()", Due.face(x), ahead);
        Due.due("count(7)", x.count(7), 55);
        x.write('d' | 'r' << 8 | 'y' << 16, 3);
        Due.due("dike(), with its end", x.dike(), 8);
        Due.due("count(0)", x.count(0), 4);
    }

    private static DikeWatch lived() {
        DikeWatch x = Due.told("dike 6;seep 5 50 5 0;seep 4 97 9 0;plain 5 1 9");
        x.go(2);
        x.fill(5);
        x.seen(0, 0, 0);
        x.paid(0, 5);
        x.keep(0);
        x.keep(1);
        return x;
    }

    @Says("Behind them it is HOUR 0, all is as told, nothing is FILLED, no ORANGES are paid, nothing is SEEN, nothing is kept.")
    static void behindThemItIsHour0() {
        DikeWatch x = lived();
        Due.due("count(3)", x.count(3), 2);
        Due.tell(x, "tide 0 0");
        Due.due("count(3)", x.count(3), 0);
    }

    @Says("Behind them it is HOUR 0, all is as told, nothing is FILLED, no ORANGES are paid, nothing is SEEN, nothing is kept.")
    static void behindThemAllIsAsTold() {
        DikeWatch x = lived();
        Due.due("seep(0, 1)", x.seep(0, 1), 60);
        Due.due("count(5)", x.count(5), 2);
        Due.due("child(0, 1)", x.child(0, 1), 3);
        Due.due("child(0, 4)", x.child(0, 4), 1);
        Due.tell(x, "tide 0 0");
        Due.due("seep(0, 1)", x.seep(0, 1), 50);
        Due.due("count(5)", x.count(5), 0);
        Due.due("child(0, 1)", x.child(0, 1), 5);
        Due.due("child(0, 4)", x.child(0, 4), 0);
    }

    @Says("Behind them it is HOUR 0, all is as told, nothing is FILLED, no ORANGES are paid, nothing is SEEN, nothing is kept.")
    static void behindThemNothingIsFilled() {
        DikeWatch x = lived();
        Due.due("count(4)", x.count(4), 1);
        Due.tell(x, "tide 0 0");
        Due.due("count(4)", x.count(4), 0);
        Due.due("seep(0, 4)", x.seep(0, 4), 0);
    }

    @Says("Behind them it is HOUR 0, all is as told, nothing is FILLED, no ORANGES are paid, nothing is SEEN, nothing is kept.")
    static void behindThemNoOrangesArePaid() {
        DikeWatch x = lived();
        Due.due("child(0, 5)", x.child(0, 5), 8);
        Due.tell(x, "tide 0 0");
        Due.due("child(0, 5)", x.child(0, 5), 0);
    }

    @Says("Behind them it is HOUR 0, all is as told, nothing is FILLED, no ORANGES are paid, nothing is SEEN, nothing is kept.")
    static void behindThemNothingIsSeen() {
        DikeWatch x = lived();
        Due.due("count(6)", x.count(6), 2);
        Due.due("where()", x.where(), 1 << 4);
        Due.tell(x, "tide 0 0");
        Due.due("count(6)", x.count(6), 0);
        Due.due("where()", x.where(), 63);
        Due.due("forget()", x.forget(), 0);
    }

    @Says("Behind them it is HOUR 0, all is as told, nothing is FILLED, no ORANGES are paid, nothing is SEEN, nothing is kept.")
    static void behindThemNothingIsKept() {
        DikeWatch x = lived();
        Due.due("back(0)", x.back(0), 2);
        Due.due("back(1)", x.back(1), 2);
        Due.tell(x, "tide 0 0");
        Due.due("back(0)", x.back(0), NOT);
        Due.due("back(1)", x.back(1), NOT);
    }

    @Says("(As written here, without points;")
    static void aPointIsAFault() {
        for (String line : new String[] {"dike 4", "tide 0 0", "seep 0 1 0 0", "plain 0 0 0", "dry", "school"}) {
            Due.fault(line + ".", line.length());
            Due.fault("dry;" + line + " .;dry", 4 + line.length() + 1);
        }
        Due.fault("tide 0.5 0", 6);
    }
}
