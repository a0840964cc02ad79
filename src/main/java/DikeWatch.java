import java.util.Arrays;

/**
 * A dike with seeps that grow by the tide, and children who walk it and hear water: told in texts,
 * lived through hour by hour, foretold, and searched by what was seen.
 */
public final class DikeWatch {
    public static final int NONE = -1, UNKNOWN = -2, OUTSIDE = -3, NOT = -4, FULL = -5;

    private static final int FEWEST_YARDS = 4, MOST_YARDS = 24, YARDS_AT_FIRST = 12;
    private static final int DAY = 12, MOST_TIDE = 9;
    private static final int MOST_SEEPS = 6, MOST_GROWTH = 9, BROKEN = 100;
    private static final int MOST_CHILDREN = 5, MOST_PACE = 3, MOST_EAR = 9;
    private static final int PLAIN = 0, TIRED = 1, HOAXER = 2, DEAF = 3;
    private static final int AS_CHILD = 0, AS_PLAIN = 1, AS_DEAF = 4;
    private static final int HOURS_UNTIL_TIRED = 4;
    private static final int MOST_ORANGES = 9;
    private static final int MOST_BYTES = 200, MOST_BYTES_A_WRITE = 8, MOST_LINES = 12;
    private static final int MOST_HOURS_A_GO = 99, MOST_HOURS = 9999;
    private static final int MOST_HOURS_LATER = 99, LAST_BREAK = 999;
    private static final int MOST_FILLED_BY_MEN = 5, MOST_ROWS_OF_MEN = 120;
    private static final int MOST_STORMS = 18, TENTHS = 10;
    private static final int MOST_CLUES = 9;
    private static final int KEEPS = 2;

    private final Text text;
    private final Told told;
    private final Told draft;
    private final Reader reader;
    private final Night now;
    private final Night firstKept;
    private final Night secondKept;
    private int keptBits;
    private final Foretold foretold;
    private final Men men;
    private final Storms stormOdds;
    private final Clues clues;

    public DikeWatch() {
        Text newText = new Text();
        Told newTold = new Told();
        Told newDraft = new Told();
        Night newNight = new Night(newTold);
        Foretold newForetold = new Foretold(newTold, newNight, new Night(newTold));
        text = newText;
        told = newTold;
        draft = newDraft;
        reader = new Reader(newText, newDraft);
        now = newNight;
        firstKept = new Night(newTold);
        secondKept = new Night(newTold);
        keptBits = 0;
        foretold = newForetold;
        men = new Men(newTold, newForetold);
        stormOdds = new Storms();
        clues = new Clues();
    }

    // ---- what is told

    public int write(long bytes, int n) {
        if (!isWithin(n, 1, MOST_BYTES_A_WRITE)) {
            return OUTSIDE;
        }
        if (!text.hasRoomFor(n)) {
            return FULL;
        }
        text.add(bytes, n);
        return text.length;
    }

    public int erase() {
        int had = text.length;
        text.length = 0;
        return had;
    }

    public int fault() {
        draft.copyFrom(told);
        return reader.readToFault();
    }

    public int dike() {
        draft.copyFrom(told);
        if (reader.readToFault() != NONE) {
            return NOT;
        }
        told.copyFrom(draft);
        text.length = 0;
        now.begin();
        keptBits = 0;
        clues.begin(told.yards);
        return reader.lines;
    }

    public int tide(int hour) {
        return isWithin(hour, 0, DAY - 1) ? told.tideAt(hour) : OUTSIDE;
    }

    public int seep(int seep, int what) {
        if (!told.hasSeep(seep)) {
            return UNKNOWN;
        }
        switch (what) {
            case 0: return told.seepYard[seep];
            case 1: return now.size[seep];
            case 2: return told.growth[seep];
            case 3: return told.level[seep];
            case 4: return now.isFilled(seep) ? 1 : 0;
            default: return OUTSIDE;
        }
    }

    public int child(int child, int what) {
        if (!told.hasChild(child)) {
            return UNKNOWN;
        }
        switch (what) {
            case 0: return told.kind[child];
            case 1: return now.yard[child];
            case 2: return told.pace[child];
            case 3: return now.earOf(child);
            case 4: return now.goesToLesser(child) ? 1 : 0;
            case 5: return now.oranges[child];
            case 6: return now.toldBy(child);
            default: return OUTSIDE;
        }
    }

    public int as(int child, int kind) {
        if (!told.hasChild(child)) {
            return UNKNOWN;
        }
        if (!isWithin(kind, AS_CHILD, AS_DEAF)) {
            return OUTSIDE;
        }
        return isOfKind(told.kind[child], kind) ? now.heardBy(child) : NOT;
    }

    // ---- hours

    public int go(int n) {
        if (!isWithin(n, 1, MOST_HOURS_A_GO)) {
            return OUTSIDE;
        }
        if (n > MOST_HOURS - now.hours) {
            return FULL;
        }
        now.passHours(n);
        return now.hours;
    }

    public int fill(int yard) {
        return told.hasYard(yard) ? now.fillAt(yard) : UNKNOWN;
    }

    public int keep(int k) {
        if (!isWithin(k, 0, KEEPS - 1)) {
            return UNKNOWN;
        }
        keptNight(k).copyFrom(now);
        keptBits |= 1 << k;
        return now.hours;
    }

    public int back(int k) {
        if (!isWithin(k, 0, KEEPS - 1)) {
            return UNKNOWN;
        }
        if (!hasBit(keptBits, k)) {
            return NOT;
        }
        now.copyFrom(keptNight(k));
        return now.hours;
    }

    // ---- foretold

    public int later(int which, int t, int what) {
        if (!isWithin(what, 0, 2)) {
            return OUTSIDE;
        }
        boolean isThere = what == 0 ? told.hasSeep(which) : told.hasChild(which);
        if (!isThere) {
            return UNKNOWN;
        }
        if (!isWithin(t, 0, MOST_HOURS_LATER)) {
            return OUTSIDE;
        }
        Night then = foretold.nightIn(t);
        switch (what) {
            case 0: return then.size[which];
            case 1: return then.yard[which];
            default: return then.heardBy(which);
        }
    }

    public int breaks(int seep) {
        if (!told.hasSeep(seep)) {
            return UNKNOWN;
        }
        return now.isFilled(seep) ? NOT : foretold.hoursToBreak(seep);
    }

    public int missed(int children) {
        return told.hasChildren(children) ? foretold.missedBy(children) : UNKNOWN;
    }

    public int watch(int what) {
        if (!isWithin(what, 0, 1)) {
            return OUTSIDE;
        }
        int set = foretold.leastWatch();
        return set == NONE || what == 1 ? set : Integer.bitCount(set);
    }

    public int order(int yard, int seeps, int i) {
        if (!told.hasYard(yard) || !told.hasSeeps(seeps)) {
            return UNKNOWN;
        }
        if (i < NONE) {
            return OUTSIDE;
        }
        if (Integer.bitCount(seeps) > MOST_FILLED_BY_MEN || (seeps & now.filled) != 0) {
            return NOT;
        }
        men.findBestRow(yard, seeps);
        return i == NONE ? men.fewestLost : men.bestAt(i);
    }

    public long storms(int seep, int t, int p, int part) {
        if (!told.hasSeep(seep)) {
            return UNKNOWN;
        }
        if (!isWithin(t, 0, MOST_STORMS) || !isWithin(p, 0, TENTHS) || !isWithin(part, 0, 1)) {
            return OUTSIDE;
        }
        if (now.isFilled(seep)) {
            return NOT;
        }
        stormOdds.reckon(growthsToBreak(now.size[seep], told.growth[seep]), t, p);
        return part == 0 ? stormOdds.above : stormOdds.below;
    }

    public int guard(int ear, int what) {
        if (!isWithin(ear, 0, MOST_EAR) || !isWithin(what, 0, 1)) {
            return OUTSIDE;
        }
        int best = 0;
        int heardAtBest = now.heardFrom(best, ear);
        for (int yard = 1; yard < told.yards; yard++) {
            int heard = now.heardFrom(yard, ear);
            if (Integer.bitCount(heard) > Integer.bitCount(heardAtBest)) {
                best = yard;
                heardAtBest = heard;
            }
        }
        return what == 0 ? best : heardAtBest;
    }

    // ---- what was seen

    public int seen(int yard, int ear, int heard) {
        if (!told.hasYard(yard)) {
            return UNKNOWN;
        }
        if (!isWithin(ear, 0, MOST_EAR) || !isWithin(heard, 0, 1)) {
            return OUTSIDE;
        }
        int inEar = clues.yardsInEar(yard, ear);
        return clues.add(heard == 1 ? inEar : ~inEar);
    }

    public int paid(int yard, int oranges) {
        if (!told.hasYard(yard)) {
            return UNKNOWN;
        }
        if (!isWithin(oranges, 0, MOST_ORANGES)) {
            return OUTSIDE;
        }
        return clues.add(clues.yardsPaying(yard, oranges));
    }

    public int forget() {
        int had = clues.count;
        clues.begin(told.yards);
        return had;
    }

    public int where() {
        return clues.possible;
    }

    public int next(int ear) {
        return isWithin(ear, 0, MOST_EAR) ? clues.surestYard(ear) : OUTSIDE;
    }

    public int count(int what) {
        switch (what) {
            case 0: return told.yards;
            case 1: return told.seeps;
            case 2: return told.children;
            case 3: return now.hours;
            case 4: return now.filled;
            case 5: return now.brokenSeeps();
            case 6: return clues.count;
            case 7: return text.length;
            default: return OUTSIDE;
        }
    }

    private Night keptNight(int k) {
        return k == 0 ? firstKept : secondKept;
    }

    private static boolean isWithin(int number, int least, int most) {
        return number >= least && number <= most;
    }

    private static boolean hasBit(int bits, int i) {
        return (bits >> i & 1) == 1;
    }

    /** Whether bits above the first n are all 0: a set of n things at most. */
    private static boolean isSetOf(int n, int bits) {
        return bits >> n == 0;
    }

    private static boolean reaches(int ear, int from, int to) {
        return Math.abs(from - to) <= ear;
    }

    /** TIRED stands under PLAIN, and every kind under CHILD; taken as, each number is one greater. */
    private static boolean isOfKind(int kind, int takenAs) {
        return takenAs == AS_CHILD || takenAs == kind + 1 || takenAs == AS_PLAIN && kind == TIRED;
    }

    private static int orangesFor(int toldYard, int filledYard) {
        return Math.max(0, MOST_ORANGES - Math.abs(toldYard - filledYard));
    }

    /** How often a seep must grow to break: NONE, if it never can. */
    private static int growthsToBreak(int size, int growth) {
        if (size >= BROKEN) {
            return 0;
        }
        return growth > 0 ? (BROKEN - size + growth - 1) / growth : NONE;
    }

    /** THE TEXT, byte by byte. */
    private static final class Text {
        final byte[] signs = new byte[MOST_BYTES];
        int length = 0;

        boolean hasRoomFor(int n) {
            return n <= MOST_BYTES - length;
        }

        void add(long bytes, int n) {
            for (int i = 0; i < n && length < MOST_BYTES; i++) {
                signs[length] = (byte) (bytes >> 8 * i);
                length++;
            }
        }

        /** NONE at the end, so that a reader needs no test of its own. */
        int signAt(int place) {
            return place >= 0 && place < length ? signs[place] & 255 : NONE;
        }
    }

    /** What texts have told; the hours change nothing in it. */
    private static final class Told {
        int yards = YARDS_AT_FIRST;
        final int[] tides = new int[DAY];
        int seeps = 0;
        final int[] seepYard = new int[MOST_SEEPS];
        final int[] seepSize = new int[MOST_SEEPS];
        final int[] growth = new int[MOST_SEEPS];
        final int[] level = new int[MOST_SEEPS];
        int children = 0;
        final int[] kind = new int[MOST_CHILDREN];
        final int[] childYard = new int[MOST_CHILDREN];
        final int[] pace = new int[MOST_CHILDREN];
        final int[] ear = new int[MOST_CHILDREN];

        void copyFrom(Told other) {
            yards = other.yards;
            System.arraycopy(other.tides, 0, tides, 0, DAY);
            seeps = other.seeps;
            System.arraycopy(other.seepYard, 0, seepYard, 0, MOST_SEEPS);
            System.arraycopy(other.seepSize, 0, seepSize, 0, MOST_SEEPS);
            System.arraycopy(other.growth, 0, growth, 0, MOST_SEEPS);
            System.arraycopy(other.level, 0, level, 0, MOST_SEEPS);
            children = other.children;
            System.arraycopy(other.kind, 0, kind, 0, MOST_CHILDREN);
            System.arraycopy(other.childYard, 0, childYard, 0, MOST_CHILDREN);
            System.arraycopy(other.pace, 0, pace, 0, MOST_CHILDREN);
            System.arraycopy(other.ear, 0, ear, 0, MOST_CHILDREN);
        }

        void startAnew(int n) {
            yards = n;
            Arrays.fill(tides, 0);
            seeps = 0;
            children = 0;
        }

        boolean hasRoomForSeep() {
            return seeps < MOST_SEEPS;
        }

        void addSeep(int atYard, int ofSize, int ofGrowth, int ofLevel) {
            if (!hasRoomForSeep()) {
                return;
            }
            seepYard[seeps] = atYard;
            seepSize[seeps] = ofSize;
            growth[seeps] = ofGrowth;
            level[seeps] = ofLevel;
            seeps++;
        }

        boolean hasRoomForChild() {
            return children < MOST_CHILDREN;
        }

        void addChild(int ofKind, int atYard, int ofPace, int ofEar) {
            if (!hasRoomForChild()) {
                return;
            }
            kind[children] = ofKind;
            childYard[children] = atYard;
            pace[children] = ofPace;
            ear[children] = ofEar;
            children++;
        }

        boolean hasYard(int yard) {
            return yard >= 0 && yard < yards;
        }

        boolean hasSeep(int seep) {
            return seep >= 0 && seep < seeps;
        }

        boolean hasChild(int child) {
            return child >= 0 && child < children;
        }

        boolean hasSeeps(int bits) {
            return isSetOf(seeps, bits);
        }

        boolean hasChildren(int bits) {
            return isSetOf(children, bits);
        }

        int tideAt(int hour) {
            return tides[Math.floorMod(hour, DAY)];
        }

        /** The size that a seep has behind an hour, if it had another ahead of it. */
        int grown(int seep, int size, int hour) {
            return tideAt(hour) >= level[seep] ? Math.min(BROKEN, size + growth[seep]) : size;
        }
    }

    /** Reads THE TEXT to its first fault and does its lines on a draft, so that a fault costs nothing. */
    private static final class Reader {
        private static final int END = 0, WORD = 1, NUMBER = 2, OTHER = 3;
        private static final int BLANK = 32, MOST_DIGITS = 2;

        final Text text;
        final Told draft;
        int sort = END;
        int begin = 0;
        int end = 0;
        int lines = 0;

        Reader(Text text, Told draft) {
            this.text = text;
            this.draft = draft;
        }

        /** The place of the fault; NONE: there is none, and the draft is as the lines say. */
        int readToFault() {
            end = 0;
            for (int line = 1; line <= MOST_LINES; line++) {
                if (!readLine()) {
                    return begin;
                }
                lines = line;
                toNextToken();
                if (sort == END) {
                    return NONE;
                }
                if (text.signAt(begin) != ';') {
                    return begin;
                }
            }
            return begin;
        }

        /** Whether a whole line could be read; if not, the token is the one that cannot stand there. */
        private boolean readLine() {
            toNextToken();
            if (isWord("dike")) {
                return readDike();
            }
            if (isWord("tide")) {
                return readTide();
            }
            if (isWord("seep")) {
                return readSeep();
            }
            if (isWord("dry")) {
                draft.seeps = 0;
                return true;
            }
            if (isWord("school")) {
                draft.children = 0;
                return true;
            }
            int kind = kindOfWord();
            return kind != NONE && readChild(kind);
        }

        private int kindOfWord() {
            if (isWord("plain")) {
                return PLAIN;
            }
            if (isWord("tired")) {
                return TIRED;
            }
            if (isWord("hoax")) {
                return HOAXER;
            }
            return isWord("deaf") ? DEAF : NONE;
        }

        private boolean readDike() {
            int n = readNumber(FEWEST_YARDS, MOST_YARDS);
            if (n == NONE) {
                return false;
            }
            draft.startAnew(n);
            return true;
        }

        private boolean readTide() {
            int hour = readNumber(0, DAY - 1);
            if (hour < 0 || hour >= DAY) {
                return false;
            }
            int tide = readNumber(0, MOST_TIDE);
            if (tide == NONE) {
                return false;
            }
            draft.tides[hour] = tide;
            return true;
        }

        private boolean readSeep() {
            if (!draft.hasRoomForSeep()) {
                return false;
            }
            int yard = readNumber(0, draft.yards - 1);
            int size = yard == NONE ? NONE : readNumber(1, BROKEN - 1);
            int growth = size == NONE ? NONE : readNumber(0, MOST_GROWTH);
            int level = growth == NONE ? NONE : readNumber(0, MOST_TIDE);
            if (level == NONE) {
                return false;
            }
            draft.addSeep(yard, size, growth, level);
            return true;
        }

        private boolean readChild(int kind) {
            if (!draft.hasRoomForChild()) {
                return false;
            }
            int yard = readNumber(0, draft.yards - 1);
            int pace = yard == NONE ? NONE : readNumber(0, MOST_PACE);
            int ear = pace == NONE ? NONE : readNumber(0, MOST_EAR);
            if (ear == NONE) {
                return false;
            }
            draft.addChild(kind, yard, pace, ear);
            return true;
        }

        /** The number that is the next token; NONE, if it is no number or not one that can stand there. */
        private int readNumber(int least, int most) {
            toNextToken();
            if (sort != NUMBER || end - begin > MOST_DIGITS) {
                return NONE;
            }
            int number = 0;
            for (int place = begin; place < end; place++) {
                number = number * 10 + text.signAt(place) - '0';
            }
            return isWithin(number, least, most) ? number : NONE;
        }

        private boolean isWord(String word) {
            if (sort != WORD || end - begin != word.length()) {
                return false;
            }
            for (int i = 0; i < word.length(); i++) {
                if (text.signAt(begin + i) != word.charAt(i)) {
                    return false;
                }
            }
            return true;
        }

        private void toNextToken() {
            begin = end;
            while (begin < text.length && text.signAt(begin) == BLANK) {
                begin++;
            }
            sort = sortOf(text.signAt(begin));
            end = sort == END ? begin : begin + 1;
            boolean isRow = sort == WORD || sort == NUMBER;
            while (isRow && end < text.length && sortOf(text.signAt(end)) == sort) {
                end++;
            }
        }

        private static int sortOf(int sign) {
            if (sign == NONE) {
                return END;
            }
            if (sign >= 'a' && sign <= 'z') {
                return WORD;
            }
            return sign >= '0' && sign <= '9' ? NUMBER : OTHER;
        }
    }

    /** How things stand at an hour: what goes on, is filled, is paid. */
    private static final class Night {
        final Told told;
        int hours = 0;
        int filled = 0;
        final int[] size = new int[MOST_SEEPS];
        final int[] yard = new int[MOST_CHILDREN];
        int toLesser = 0;
        final int[] oranges = new int[MOST_CHILDREN];

        Night(Told told) {
            this.told = told;
        }

        void begin() {
            hours = 0;
            filled = 0;
            System.arraycopy(told.seepSize, 0, size, 0, MOST_SEEPS);
            System.arraycopy(told.childYard, 0, yard, 0, MOST_CHILDREN);
            toLesser = 0;
            Arrays.fill(oranges, 0);
        }

        void copyFrom(Night other) {
            hours = other.hours;
            filled = other.filled;
            System.arraycopy(other.size, 0, size, 0, MOST_SEEPS);
            System.arraycopy(other.yard, 0, yard, 0, MOST_CHILDREN);
            toLesser = other.toLesser;
            System.arraycopy(other.oranges, 0, oranges, 0, MOST_CHILDREN);
        }

        void passHours(int n) {
            for (int i = 0; i < n; i++) {
                growSeeps();
                for (int child = 0; child < told.children; child++) {
                    walk(child);
                }
                hours++;
            }
        }

        private void growSeeps() {
            for (int seep = 0; seep < told.seeps; seep++) {
                if (!isFilled(seep)) {
                    size[seep] = told.grown(seep, size[seep], hours);
                }
            }
        }

        /** An hour's walk of one child. */
        void walk(int child) {
            for (int i = 0; i < told.pace[child]; i++) {
                int end = goesToLesser(child) ? 0 : told.yards - 1;
                if (yard[child] == end) {
                    toLesser ^= 1 << child;
                }
                yard[child] += goesToLesser(child) ? -1 : 1;
            }
        }

        boolean goesToLesser(int child) {
            return hasBit(toLesser, child);
        }

        boolean isFilled(int seep) {
            return hasBit(filled, seep);
        }

        int brokenSeeps() {
            int bits = 0;
            for (int seep = 0; seep < told.seeps; seep++) {
                bits |= size[seep] >= BROKEN ? 1 << seep : 0;
            }
            return bits;
        }

        int seepsAt(int place) {
            int bits = 0;
            for (int seep = 0; seep < told.seeps; seep++) {
                bits |= told.seepYard[seep] == place ? 1 << seep : 0;
            }
            return bits;
        }

        int earOf(int child) {
            int ear = told.ear[child];
            return told.kind[child] == TIRED ? Math.max(0, ear - hours / HOURS_UNTIL_TIRED) : ear;
        }

        /** Seeps that a good ear hears at a yard: also those that are broken. */
        int heardFrom(int place, int ear) {
            int bits = 0;
            for (int seep = 0; seep < told.seeps; seep++) {
                if (!isFilled(seep) && reaches(ear, place, told.seepYard[seep])) {
                    bits |= 1 << seep;
                }
            }
            return bits;
        }

        int heardBy(int child) {
            int kind = told.kind[child];
            return kind == HOAXER || kind == DEAF ? 0 : heardFrom(yard[child], earOf(child));
        }

        /** The yard that a child tells; NONE. */
        int toldBy(int child) {
            if (told.kind[child] == HOAXER) {
                return yard[child];
            }
            int heard = heardBy(child);
            int nearest = NONE;
            for (int seep = 0; seep < told.seeps; seep++) {
                if (hasBit(heard, seep) && isNearer(yard[child], told.seepYard[seep], nearest)) {
                    nearest = told.seepYard[seep];
                }
            }
            return nearest;
        }

        private static boolean isNearer(int from, int place, int other) {
            if (other == NONE) {
                return true;
            }
            int order = Integer.compare(Math.abs(from - place), Math.abs(from - other));
            return order < 0 || order == 0 && place < other;
        }

        /** What is paid for it, all together; children tell ahead of the fill. */
        int fillAt(int place) {
            int here = seepsAt(place);
            boolean isWorthPay = (here & ~filled & ~brokenSeeps()) != 0;
            int all = 0;
            for (int child = 0; child < told.children && isWorthPay; child++) {
                int tells = toldBy(child);
                int pay = tells == NONE ? 0 : orangesFor(tells, place);
                oranges[child] += pay;
                all += pay;
            }
            filled |= here;
            return all;
        }
    }

    /** What comes from now on, if nothing more is filled; it changes a night of its own alone. */
    private static final class Foretold {
        final Told told;
        final Night now;
        final Night ahead;
        final int[] breakHour = new int[MOST_SEEPS];
        final int[] heardInTime = new int[MOST_CHILDREN];

        Foretold(Told told, Night now, Night ahead) {
            this.told = told;
            this.now = now;
            this.ahead = ahead;
        }

        Night nightIn(int t) {
            ahead.copyFrom(now);
            ahead.passHours(t);
            return ahead;
        }

        /** Of a seep that is not filled: NONE, if it does not break in the hours that are looked at. */
        int hoursToBreak(int seep) {
            int size = now.size[seep];
            for (int t = 0; t <= LAST_BREAK; t++) {
                if (size >= BROKEN) {
                    return t;
                }
                size = told.grown(seep, size, now.hours + t);
            }
            return NONE;
        }

        /** Seeps that are sound now and will break, by bits; their hours stand in breakHour then. */
        private int findBreaking() {
            int bits = 0;
            for (int seep = 0; seep < told.seeps; seep++) {
                breakHour[seep] = now.isFilled(seep) ? NONE : hoursToBreak(seep);
                bits |= breakHour[seep] > 0 ? 1 << seep : 0;
            }
            return bits;
        }

        private int lastBreakHour(int seeps) {
            int last = 0;
            for (int seep = 0; seep < told.seeps; seep++) {
                last = hasBit(seeps, seep) ? Math.max(last, breakHour[seep]) : last;
            }
            return last;
        }

        /** Those of the seeps that a child hears while they are not broken yet. */
        private int findHeardInTime(int child, int seeps) {
            // behind a round to and fro he is where he was, and his ear is no better
            int round = 2 * (told.yards - 1);
            int last = Math.min(round, lastBreakHour(seeps));
            int found = 0;
            ahead.copyFrom(now);
            for (int t = 0; t < last && found != seeps; t++) {
                found |= ahead.heardBy(child) & unbrokenIn(t, seeps);
                ahead.walk(child);
                ahead.hours++;
            }
            return found;
        }

        private int unbrokenIn(int t, int seeps) {
            int bits = 0;
            for (int seep = 0; seep < told.seeps; seep++) {
                bits |= hasBit(seeps, seep) && t < breakHour[seep] ? 1 << seep : 0;
            }
            return bits;
        }

        int missedBy(int children) {
            int left = findBreaking();
            for (int child = 0; child < told.children && left != 0; child++) {
                if (hasBit(children, child)) {
                    left &= ~findHeardInTime(child, left);
                }
            }
            return left;
        }

        /** The least of the smallest sets of children by whom none is missed; NONE. */
        int leastWatch() {
            int breaking = findBreaking();
            for (int child = 0; child < told.children; child++) {
                heardInTime[child] = findHeardInTime(child, breaking);
            }
            int best = NONE;
            for (int set = 0; set < 1 << told.children; set++) {
                boolean isSmaller = best == NONE || Integer.bitCount(set) < Integer.bitCount(best);
                if (isSmaller && (breaking & ~heardTogether(set)) == 0) {
                    best = set;
                }
            }
            return best;
        }

        private int heardTogether(int children) {
            int bits = 0;
            for (int child = 0; child < told.children; child++) {
                bits |= hasBit(children, child) ? heardInTime[child] : 0;
            }
            return bits;
        }
    }

    /** Men who fill a set of seeps one by one: every row is tried, from the first on. */
    private static final class Men {
        final Told told;
        final Foretold foretold;
        final int[] breakHour = new int[MOST_SEEPS];
        final int[] row = new int[MOST_FILLED_BY_MEN];
        final int[] bestRow = new int[MOST_FILLED_BY_MEN];
        int length = 0;
        int fewestLost = 0;

        Men(Told told, Foretold foretold) {
            this.told = told;
            this.foretold = foretold;
        }

        int bestAt(int i) {
            return i >= 0 && i < length ? bestRow[i] : NONE;
        }

        void findBestRow(int yard, int seeps) {
            layFirstRow(seeps);
            fewestLost = MOST_FILLED_BY_MEN + 1;
            boolean isRowLeft = true;
            for (int i = 0; i < MOST_ROWS_OF_MEN && isRowLeft; i++) {
                int lost = lostByRow(yard);
                if (lost < fewestLost) {
                    fewestLost = lost;
                    System.arraycopy(row, 0, bestRow, 0, MOST_FILLED_BY_MEN);
                }
                isRowLeft = layNextRow();
            }
        }

        private void layFirstRow(int seeps) {
            length = 0;
            for (int seep = 0; seep < told.seeps; seep++) {
                if (hasBit(seeps, seep) && length < MOST_FILLED_BY_MEN) {
                    breakHour[seep] = foretold.hoursToBreak(seep);
                    row[length] = seep;
                    length++;
                }
            }
        }

        private int lostByRow(int yard) {
            int lost = 0;
            int hours = 0;
            int at = yard;
            for (int i = 0; i < length; i++) {
                int seep = row[i];
                hours += Math.abs(at - told.seepYard[seep]) + 1;
                at = told.seepYard[seep];
                lost += breakHour[seep] != NONE && breakHour[seep] <= hours ? 1 : 0;
            }
            return lost;
        }

        /** The row that follows by seeps: from the last place that can grow, as little as it can. */
        private boolean layNextRow() {
            int place = length - 2;
            while (place >= 0 && row[place] > row[place + 1]) {
                place--;
            }
            if (place < 0) {
                return false;
            }
            int other = length - 1;
            while (other > place && row[other] < row[place]) {
                other--;
            }
            swap(place, other);
            for (int left = place + 1, right = length - 1; left < right; left++, right--) {
                swap(left, right);
            }
            return true;
        }

        private void swap(int i, int j) {
            int seep = row[i];
            row[i] = row[j];
            row[j] = seep;
        }
    }

    /** Odds in lowest terms; ten to the 18th, the greatest number here, still is a long. */
    private static final class Storms {
        final long[] ways = new long[MOST_STORMS + 1];
        long above = 0;
        long below = 1;

        void reckon(int growthsNeeded, int t, int p) {
            countWays(t, p);
            above = 0;
            below = 1;
            for (int i = 0; i < t; i++) {
                below *= TENTHS;
            }
            for (int growths = 0; growths <= t && growths <= MOST_STORMS; growths++) {
                above += growthsNeeded != NONE && growths >= growthsNeeded ? ways[growths] : 0;
            }
            // below has no prime factors but 2 and 5, each t times
            for (int i = 0; i < t; i++) {
                cancel(2);
                cancel(5);
            }
        }

        /** ways[k]: how many of the 10 to the t courses of t hours bring k growths. */
        private void countWays(int t, int p) {
            Arrays.fill(ways, 0);
            ways[0] = 1;
            for (int hour = 1; hour <= t && hour <= MOST_STORMS; hour++) {
                for (int growths = hour; growths > 0; growths--) {
                    ways[growths] = ways[growths] * (TENTHS - p) + ways[growths - 1] * p;
                }
                ways[0] *= TENTHS - p;
            }
        }

        private void cancel(int factor) {
            if (factor > 0 && above % factor == 0 && below % factor == 0) {
                above /= factor;
                below /= factor;
            }
        }
    }

    /** What was seen of one leak: only the yards that are left, as no clue is ever taken back alone. */
    private static final class Clues {
        int yards = YARDS_AT_FIRST;
        int count = 0;
        int possible = (1 << YARDS_AT_FIRST) - 1;

        void begin(int n) {
            yards = n;
            count = 0;
            possible = (1 << n) - 1;
        }

        int add(int yardsLeft) {
            if (count >= MOST_CLUES) {
                return FULL;
            }
            possible &= yardsLeft;
            count++;
            return count;
        }

        int yardsInEar(int from, int ear) {
            int bits = 0;
            for (int yard = 0; yard < yards; yard++) {
                bits |= reaches(ear, from, yard) ? 1 << yard : 0;
            }
            return bits;
        }

        int yardsPaying(int toldYard, int oranges) {
            int bits = 0;
            for (int yard = 0; yard < yards; yard++) {
                bits |= orangesFor(toldYard, yard) == oranges ? 1 << yard : 0;
            }
            return bits;
        }

        /** The yard from which the worse answer leaves fewest yards; NONE, if none is left now. */
        int surestYard(int ear) {
            int best = NONE;
            int fewest = MOST_YARDS + 1;
            for (int yard = 0; yard < yards && possible != 0; yard++) {
                int inEar = Integer.bitCount(possible & yardsInEar(yard, ear));
                int worse = Math.max(inEar, Integer.bitCount(possible) - inEar);
                if (worse < fewest) {
                    best = yard;
                    fewest = worse;
                }
            }
            return best;
        }
    }
}
