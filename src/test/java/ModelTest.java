import java.nio.charset.StandardCharsets;
import java.math.BigInteger;
import java.util.ArrayList;
import java.util.List;
import java.util.Random;
import java.util.regex.Matcher;
import java.util.regex.Pattern;

/**
 * Random runs (of fixed seeds) on the class and on a second, slow telling of the document, which
 * shares no code with it; a call that the Java machine throws in counts as wrong too.
 */
public final class ModelTest {
    private static final int RUNS = 1500, CALLS = 250;
    private static final String[] WORDS = {"dike", "tide", "seep", "plain", "tired", "hoax", "deaf", "dry", "school"};
    private static int wrong = 0;

    public static void main(String[] args) {
        for (int seed = 1; seed <= RUNS && wrong < 20; seed++) {
            run(seed);
        }
        System.out.println(wrong == 0 ? "all answers are as due" : wrong + " answers are not as due");
        if (wrong != 0) {
            System.exit(1);
        }
    }

    private static void run(int seed) {
        Random random = new Random(seed);
        DikeWatch x = new DikeWatch();
        Model model = new Model();
        int calls = 0;
        while (calls < CALLS && wrong < 20) {
            if (calls == 0 || random.nextInt(25) == 0) {
                calls += tell(seed, random, x, model);
            } else {
                call(seed, random, x, model);
                calls++;
            }
        }
    }

    /** A text in pieces, then fault and dike; now and then a faulty one is erased. */
    private static int tell(int seed, Random random, DikeWatch x, Model model) {
        byte[] text = text(random, model).getBytes(StandardCharsets.ISO_8859_1);
        int calls = 0;
        for (int from = 0; from < text.length; calls++) {
            int n = Math.min(1 + random.nextInt(8), text.length - from);
            long bytes = random.nextLong();
            for (int i = n - 1; i >= 0; i--) {
                bytes = bytes & ~(255L << 8 * i) | (text[from + i] & 255L) << 8 * i;
            }
            check(seed, "write(" + bytes + ", " + n + ")", x.write(bytes, n), model.write(bytes, n));
            from += n;
        }
        check(seed, "fault() of '" + model.text + "'", x.fault(), model.fault());
        check(seed, "dike()", x.dike(), model.dike());
        if (random.nextInt(8) > 0) {
            check(seed, "erase()", x.erase(), model.erase());
            calls++;
        }
        return calls + 2;
    }

    private static String text(Random random, Model model) {
        StringBuilder text = new StringBuilder();
        int lines = random.nextInt(10) == 0 ? 12 + random.nextInt(2) : 1 + random.nextInt(9);
        int yards = model.yards;
        if (random.nextInt(3) == 0) {
            yards = 4 + random.nextInt(21);
            text.append("dike ").append(yards).append(";");
        }
        for (int i = 0; i < lines; i++) {
            text.append(i > 0 ? ";" : "").append(line(random, yards));
        }
        if (random.nextInt(4) == 0) {
            int place = random.nextInt(text.length());
            String noise = " ;0129adxX" + (char) 200 + (char) 0 + "\n";
            text.setCharAt(place, noise.charAt(random.nextInt(noise.length())));
        }
        if (random.nextInt(8) == 0) {
            text.setLength(random.nextInt(text.length()));
        }
        if (text.length() > 200) {
            text.setLength(text.lastIndexOf(";", 200));
        }
        return text.toString();
    }

    private static String line(Random random, int yards) {
        int edge = random.nextInt(60) == 0 ? 1 : 0;
        String gap = random.nextInt(6) == 0 ? "  " : " ";
        int pick = random.nextInt(20);
        if (pick == 0) {
            return random.nextInt(3) > 0 ? gap + "dry" : "school" + gap;
        }
        if (pick < 7) {
            return "tide" + gap + random.nextInt(12 + edge) + " " + random.nextInt(10 + edge);
        }
        if (pick < 14) {
            return "seep" + (edge == 1 ? "" : gap) + random.nextInt(yards + edge) + gap + size(random) + " "
                + random.nextInt(10 + edge) + " " + random.nextInt(10 + edge);
        }
        return WORDS[3 + random.nextInt(4)] + gap + random.nextInt(yards + edge) + gap + random.nextInt(4 + edge)
            + " " + random.nextInt(10 + edge);
    }

    private static int size(Random random) {
        int pick = random.nextInt(4);
        return pick == 0 ? 90 + random.nextInt(10) : pick == 1 ? 1 + random.nextInt(4) : 1 + random.nextInt(99);
    }

    /** Mostly a number that is there, now and then one beside it or far off. */
    private static int number(Random random, int least, int most) {
        int pick = random.nextInt(40);
        if (pick == 0) {
            return random.nextBoolean() ? random.nextInt() : random.nextBoolean() ? Integer.MIN_VALUE : Integer.MAX_VALUE;
        }
        return pick == 1 ? least - 1 : pick == 2 ? most + 1 : least + random.nextInt(Math.max(1, most - least + 1));
    }

    private static void call(int seed, Random random, DikeWatch x, Model model) {
        int seep = number(random, 0, model.seeps.size() - 1);
        int child = number(random, 0, model.children.size() - 1);
        int yard = number(random, 0, model.yards - 1);
        int seeps = number(random, 0, (1 << model.seeps.size()) - 1);
        int children = number(random, 0, (1 << model.children.size()) - 1);
        int ear = number(random, 0, 9);
        int which = random.nextInt(24);
        int a;
        int b;
        switch (which) {
            case 0: check(seed, "tide(" + ear + ")", x.tide(ear), model.tide(ear)); break;
            case 1: a = number(random, 0, 4); check(seed, "seep(" + seep + ", " + a + ")", x.seep(seep, a), model.seep(seep, a)); break;
            case 2: a = number(random, 0, 6); check(seed, "child(" + child + ", " + a + ")", x.child(child, a), model.child(child, a)); break;
            case 3: a = number(random, 0, 4); check(seed, "as(" + child + ", " + a + ")", x.as(child, a), model.as(child, a)); break;
            case 4: a = number(random, 1, random.nextInt(9) == 0 ? 99 : 6); check(seed, "go(" + a + ")", x.go(a), model.go(a)); break;
            case 5: a = model.seeps.isEmpty() || random.nextBoolean() ? yard : model.seeps.get(0).yard;
                check(seed, "fill(" + a + ")", x.fill(a), model.fill(a)); break;
            case 6: a = number(random, 0, 1); check(seed, "keep(" + a + ")", x.keep(a), model.keep(a)); break;
            case 7: a = number(random, 0, 1); check(seed, "back(" + a + ")", x.back(a), model.back(a)); break;
            case 8: case 9: a = number(random, 0, 99); b = number(random, 0, 2); seep = b == 0 ? seep : child;
                check(seed, "later(" + seep + ", " + a + ", " + b + ")", x.later(seep, a, b), model.later(seep, a, b)); break;
            case 10: check(seed, "breaks(" + seep + ")", x.breaks(seep), model.breaks(seep)); break;
            case 11: check(seed, "missed(" + children + ")", x.missed(children), model.missed(children)); break;
            case 12: a = number(random, 0, 1); check(seed, "watch(" + a + ")", x.watch(a), model.watch(a)); break;
            case 13: case 14: a = number(random, -1, 5);
                check(seed, "order(" + yard + ", " + seeps + ", " + a + ")", x.order(yard, seeps, a), model.order(yard, seeps, a)); break;
            case 15: case 16: storm(seed, random, x, model, seep); break;
            case 17: a = number(random, 0, 1); check(seed, "guard(" + ear + ", " + a + ")", x.guard(ear, a), model.guard(ear, a)); break;
            case 18: a = number(random, 0, 1);
                check(seed, "seen(" + yard + ", " + ear + ", " + a + ")", x.seen(yard, ear, a), model.seen(yard, ear, a)); break;
            case 19: check(seed, "paid(" + yard + ", " + ear + ")", x.paid(yard, ear), model.paid(yard, ear)); break;
            case 20: if (random.nextInt(3) == 0) { check(seed, "forget()", x.forget(), model.forget()); } break;
            case 21: check(seed, "where()", x.where(), model.where()); break;
            case 22: check(seed, "next(" + ear + ")", x.next(ear), model.next(ear)); break;
            default: a = number(random, 0, 7); check(seed, "count(" + a + ")", x.count(a), model.count(a));
        }
    }

    private static void storm(int seed, Random random, DikeWatch x, Model model, int seep) {
        int t = number(random, 0, 18);
        int p = number(random, 0, 10);
        int part = number(random, 0, 1);
        check(seed, "storms(" + seep + ", " + t + ", " + p + ", " + part + ")", x.storms(seep, t, p, part), model.storms(seep, t, p, part));
    }

    private static void check(int seed, String call, long got, long want) {
        if (got != want) {
            wrong++;
            System.out.println("seed " + seed + ": " + call + " answered " + got + ", due is " + want);
        }
    }

    private static final class Seep {
        final int yard, told, growth, level;
        int size;
        boolean filled;

        Seep(int yard, int told, int growth, int level) {
            this.yard = yard;
            this.told = told;
            this.growth = growth;
            this.level = level;
            size = told;
        }

        Seep same() {
            Seep s = new Seep(yard, told, growth, level);
            s.size = size;
            s.filled = filled;
            return s;
        }
    }

    private static final class Child {
        final String kind;
        final int told, pace, fullEar;
        int yard, step = 1, oranges;

        Child(String kind, int told, int pace, int fullEar) {
            this.kind = kind;
            this.told = told;
            this.pace = pace;
            this.fullEar = fullEar;
            yard = told;
        }

        Child same() {
            Child c = new Child(kind, told, pace, fullEar);
            c.yard = yard;
            c.step = step;
            c.oranges = oranges;
            return c;
        }
    }

    private record Clue(int yard, int ear, int heard, int oranges) { }

    private static final class Model {
        String text = "";
        int yards = 12, hours = 0, lines = 0;
        int[] tides = new int[12];
        List<Seep> seeps = new ArrayList<>();
        List<Child> children = new ArrayList<>();
        List<Clue> clues = new ArrayList<>();
        Model[] kept = new Model[2];

        Model same() {
            Model m = new Model();
            m.yards = yards;
            m.hours = hours;
            m.tides = tides.clone();
            seeps.forEach(s -> m.seeps.add(s.same()));
            children.forEach(c -> m.children.add(c.same()));
            return m;
        }

        int write(long bytes, int n) {
            if (n < 1 || n > 8) {
                return -3;
            }
            if (text.length() + n > 200) {
                return -5;
            }
            for (int i = 0; i < n; i++) {
                text += (char) (bytes >> 8 * i & 255);
            }
            return text.length();
        }

        int erase() {
            int had = text.length();
            text = "";
            return had;
        }

        int fault() {
            return same().doLines(text);
        }

        int dike() {
            Model m = same();
            if (m.doLines(text) != -1) {
                return -4;
            }
            text = "";
            yards = m.yards;
            tides = m.tides;
            seeps = new ArrayList<>();
            m.seeps.forEach(s -> seeps.add(new Seep(s.yard, s.told, s.growth, s.level)));
            children = new ArrayList<>();
            m.children.forEach(c -> children.add(new Child(c.kind, c.told, c.pace, c.fullEar)));
            hours = 0;
            clues.clear();
            kept = new Model[2];
            return m.lines;
        }

        /** All tokens with their places first, the end as an empty one; then line by line. */
        private int doLines(String all) {
            List<String> tokens = new ArrayList<>();
            List<Integer> places = new ArrayList<>();
            Matcher matcher = Pattern.compile("[a-z]+|[0-9]+|[^ ]", Pattern.DOTALL).matcher(all);
            while (matcher.find()) {
                tokens.add(matcher.group());
                places.add(matcher.start());
            }
            tokens.add("");
            places.add(all.length());
            int i = 0;
            while (true) {
                String word = tokens.get(i);
                int[][] bounds = bounds(word);
                if (bounds == null) {
                    return places.get(i);
                }
                int[] numbers = new int[bounds.length];
                for (int k = 0; k < bounds.length; k++) {
                    i++;
                    String token = tokens.get(i);
                    if (!token.matches("[0-9]{1,2}")) {
                        return places.get(i);
                    }
                    numbers[k] = Integer.parseInt(token);
                    if (numbers[k] < bounds[k][0] || numbers[k] > bounds[k][1]) {
                        return places.get(i);
                    }
                }
                doLine(word, numbers);
                lines++;
                i++;
                if (tokens.get(i).isEmpty()) {
                    return -1;
                }
                if (!tokens.get(i).equals(";") || lines == 12) {
                    return places.get(i);
                }
                i++;
            }
        }

        private int[][] bounds(String word) {
            int[] yard = {0, yards - 1};
            int[] digit = {0, 9};
            switch (word) {
                case "dike": return new int[][] {{4, 24}};
                case "tide": return new int[][] {{0, 11}, digit};
                case "seep": return seeps.size() == 6 ? null : new int[][] {yard, {1, 99}, digit, digit};
                case "plain": case "tired": case "hoax": case "deaf":
                    return children.size() == 5 ? null : new int[][] {yard, {0, 3}, digit};
                case "dry": case "school": return new int[0][];
                default: return null;
            }
        }

        private void doLine(String word, int[] v) {
            switch (word) {
                case "dike": yards = v[0]; tides = new int[12]; seeps.clear(); children.clear(); break;
                case "tide": tides[v[0]] = v[1]; break;
                case "seep": seeps.add(new Seep(v[0], v[1], v[2], v[3])); break;
                case "dry": seeps.clear(); break;
                case "school": children.clear(); break;
                default: children.add(new Child(word, v[0], v[1], v[2]));
            }
        }

        int tide(int hour) {
            return hour < 0 || hour > 11 ? -3 : tides[hour];
        }

        int seep(int seep, int what) {
            if (seep < 0 || seep >= seeps.size()) {
                return -2;
            }
            Seep s = seeps.get(seep);
            int[] row = {s.yard, s.size, s.growth, s.level, s.filled ? 1 : 0};
            return what < 0 || what > 4 ? -3 : row[what];
        }

        int child(int child, int what) {
            if (child < 0 || child >= children.size()) {
                return -2;
            }
            Child c = children.get(child);
            int[] row = {List.of("plain", "tired", "hoax", "deaf").indexOf(c.kind), c.yard, c.pace, ear(c),
                c.step > 0 ? 0 : 1, c.oranges, tells(c)};
            return what < 0 || what > 6 ? -3 : row[what];
        }

        private int ear(Child c) {
            int ear = c.fullEar;
            for (int gone = 4; gone <= hours && c.kind.equals("tired") && ear > 0; gone += 4) {
                ear--;
            }
            return ear;
        }

        private boolean hears(Child c, Seep s) {
            boolean can = c.kind.equals("plain") || c.kind.equals("tired");
            return can && !s.filled && s.yard >= c.yard - ear(c) && s.yard <= c.yard + ear(c);
        }

        private int heard(Child c) {
            int bits = 0;
            for (int i = 0; i < seeps.size(); i++) {
                bits += hears(c, seeps.get(i)) ? 1 << i : 0;
            }
            return bits;
        }

        private int tells(Child c) {
            if (c.kind.equals("hoax")) {
                return c.yard;
            }
            for (int off = 0; off < 24; off++) {
                for (int yard : new int[] {c.yard - off, c.yard + off}) {
                    for (Seep s : seeps) {
                        if (s.yard == yard && hears(c, s)) {
                            return yard;
                        }
                    }
                }
            }
            return -1;
        }

        int as(int child, int kind) {
            if (child < 0 || child >= children.size()) {
                return -2;
            }
            if (kind < 0 || kind > 4) {
                return -3;
            }
            Child c = children.get(child);
            List<Integer> under = switch (c.kind) {
                case "plain" -> List.of(0, 1);
                case "tired" -> List.of(0, 1, 2);
                case "hoax" -> List.of(0, 3);
                default -> List.of(0, 4);
            };
            return under.contains(kind) ? heard(c) : -4;
        }

        int go(int n) {
            if (n < 1 || n > 99) {
                return -3;
            }
            if (hours + n > 9999) {
                return -5;
            }
            pass(n);
            return hours;
        }

        private void pass(int n) {
            for (int i = 0; i < n; i++) {
                for (Seep s : seeps) {
                    if (!s.filled && tides[hours % 12] >= s.level) {
                        s.size = Math.min(100, s.size + s.growth);
                    }
                }
                for (Child c : children) {
                    for (int step = 0; step < c.pace; step++) {
                        if (c.yard + c.step < 0 || c.yard + c.step >= yards) {
                            c.step = -c.step;
                        }
                        c.yard += c.step;
                    }
                }
                hours++;
            }
        }

        private Model in(int t) {
            Model m = same();
            m.pass(t);
            return m;
        }

        int fill(int yard) {
            if (yard < 0 || yard >= yards) {
                return -2;
            }
            int all = 0;
            if (seeps.stream().anyMatch(s -> s.yard == yard && !s.filled && s.size < 100)) {
                for (Child c : children) {
                    int tells = tells(c);
                    int pay = tells == -1 ? 0 : Math.max(0, 9 - Math.abs(tells - yard));
                    c.oranges += pay;
                    all += pay;
                }
            }
            seeps.stream().filter(s -> s.yard == yard).forEach(s -> s.filled = true);
            return all;
        }

        int keep(int k) {
            if (k < 0 || k > 1) {
                return -2;
            }
            kept[k] = same();
            return hours;
        }

        int back(int k) {
            if (k < 0 || k > 1) {
                return -2;
            }
            if (kept[k] == null) {
                return -4;
            }
            Model m = kept[k].same();
            hours = m.hours;
            seeps = m.seeps;
            children = m.children;
            return hours;
        }

        int later(int which, int t, int what) {
            if (what < 0 || what > 2) {
                return -3;
            }
            if (which < 0 || which >= (what == 0 ? seeps : children).size()) {
                return -2;
            }
            if (t < 0 || t > 99) {
                return -3;
            }
            Model m = in(t);
            return what == 0 ? m.seeps.get(which).size : what == 1 ? m.children.get(which).yard : m.heard(m.children.get(which));
        }

        int breaks(int seep) {
            if (seep < 0 || seep >= seeps.size()) {
                return -2;
            }
            if (seeps.get(seep).filled) {
                return -4;
            }
            Model m = same();
            for (int t = 0; t <= 999; t++) {
                if (m.seeps.get(seep).size == 100) {
                    return t;
                }
                m.pass(1);
            }
            return -1;
        }

        /** The whole night is lived through: what breaks in it without having been heard is missed. */
        int missed(int set) {
            if (set < 0 || set >= 1 << children.size()) {
                return -2;
            }
            Model m = same();
            int left = 0;
            for (int i = 0; i < seeps.size(); i++) {
                left += seeps.get(i).filled || seeps.get(i).size == 100 ? 0 : 1 << i;
            }
            int missed = 0;
            for (int t = 0; t <= 999; t++) {
                for (int i = 0; i < seeps.size(); i++) {
                    if ((left >> i & 1) == 1 && m.seeps.get(i).size == 100) {
                        missed |= 1 << i;
                        left &= ~(1 << i);
                    }
                }
                for (int i = 0; i < children.size(); i++) {
                    left &= (set >> i & 1) == 1 ? ~m.heard(m.children.get(i)) : -1;
                }
                m.pass(1);
            }
            return missed;
        }

        int watch(int what) {
            if (what < 0 || what > 1) {
                return -3;
            }
            for (int n = 0; n <= children.size(); n++) {
                for (int set = 0; set < 1 << children.size(); set++) {
                    if (Integer.bitCount(set) == n && missed(set) == 0) {
                        return what == 0 ? n : set;
                    }
                }
            }
            return -1;
        }

        int order(int yard, int set, int i) {
            if (yard < 0 || yard >= yards || set < 0 || set >= 1 << seeps.size()) {
                return -2;
            }
            if (i < -1) {
                return -3;
            }
            List<Integer> all = new ArrayList<>();
            for (int s = 0; s < seeps.size(); s++) {
                if ((set >> s & 1) == 1) {
                    all.add(s);
                }
            }
            if (all.size() > 5 || all.stream().anyMatch(s -> seeps.get(s).filled)) {
                return -4;
            }
            Model[] nights = new Model[130];
            nights[0] = same();
            for (int t = 1; t < nights.length; t++) {
                nights[t] = nights[t - 1].in(1);
            }
            List<List<Integer>> rows = new ArrayList<>();
            rowsOf(new ArrayList<>(), all, rows);
            List<Integer> best = null;
            int fewest = 9;
            for (List<Integer> row : rows) {
                int lost = lost(yard, row, nights);
                if (lost < fewest) {
                    fewest = lost;
                    best = row;
                }
            }
            return i == -1 ? fewest : i < best.size() ? best.get(i) : -1;
        }

        private static void rowsOf(List<Integer> begun, List<Integer> all, List<List<Integer>> rows) {
            if (begun.size() == all.size()) {
                rows.add(new ArrayList<>(begun));
            }
            for (Integer s : all) {
                if (!begun.contains(s)) {
                    begun.add(s);
                    rowsOf(begun, all, rows);
                    begun.remove(s);
                }
            }
        }

        private int lost(int yard, List<Integer> row, Model[] nights) {
            int at = yard;
            int t = 0;
            int lost = 0;
            for (int s : row) {
                int to = seeps.get(s).yard;
                while (at != to) {
                    at += at < to ? 1 : -1;
                    t++;
                }
                t++;
                lost += nights[t].seeps.get(s).size == 100 ? 1 : 0;
            }
            return lost;
        }

        /** Hour by hour over the sizes, with broken ones left where they are. */
        long storms(int seep, int t, int p, int part) {
            if (seep < 0 || seep >= seeps.size()) {
                return -2;
            }
            if (t < 0 || t > 18 || p < 0 || p > 10 || part < 0 || part > 1) {
                return -3;
            }
            Seep s = seeps.get(seep);
            if (s.filled) {
                return -4;
            }
            BigInteger[] odds = new BigInteger[101];
            java.util.Arrays.fill(odds, BigInteger.ZERO);
            odds[s.size] = BigInteger.ONE;
            for (int hour = 0; hour < t; hour++) {
                BigInteger[] then = new BigInteger[101];
                java.util.Arrays.fill(then, BigInteger.ZERO);
                for (int size = 0; size <= 100; size++) {
                    int grown = Math.min(100, size + s.growth);
                    then[grown] = then[grown].add(odds[size].multiply(BigInteger.valueOf(p)));
                    then[size] = then[size].add(odds[size].multiply(BigInteger.valueOf(10 - p)));
                }
                odds = then;
            }
            BigInteger all = BigInteger.TEN.pow(t);
            BigInteger common = all.gcd(odds[100]);
            return (part == 0 ? odds[100] : all).divide(common).longValueExact();
        }

        int guard(int ear, int what) {
            if (ear < 0 || ear > 9 || what < 0 || what > 1) {
                return -3;
            }
            int[] heard = new int[yards];
            for (int yard = 0; yard < yards; yard++) {
                Child c = new Child("plain", yard, 0, ear);
                heard[yard] = heard(c);
            }
            for (int most = 6; most >= 0; most--) {
                for (int yard = 0; yard < yards; yard++) {
                    if (Integer.bitCount(heard[yard]) == most) {
                        return what == 0 ? yard : heard[yard];
                    }
                }
            }
            return -99;
        }

        int seen(int yard, int ear, int heard) {
            if (yard < 0 || yard >= yards) {
                return -2;
            }
            if (ear < 0 || ear > 9 || heard < 0 || heard > 1) {
                return -3;
            }
            return add(new Clue(yard, ear, heard, -1));
        }

        int paid(int yard, int oranges) {
            if (yard < 0 || yard >= yards) {
                return -2;
            }
            if (oranges < 0 || oranges > 9) {
                return -3;
            }
            return add(new Clue(yard, 0, 0, oranges));
        }

        private int add(Clue clue) {
            if (clues.size() == 9) {
                return -5;
            }
            clues.add(clue);
            return clues.size();
        }

        int forget() {
            int had = clues.size();
            clues.clear();
            return had;
        }

        private boolean canBe(int leak) {
            for (Clue c : clues) {
                int off = Math.abs(c.yard() - leak);
                boolean fits = c.oranges() < 0 ? off <= c.ear() == (c.heard() == 1)
                    : c.oranges() == 0 ? off >= 9 : off == 9 - c.oranges();
                if (!fits) {
                    return false;
                }
            }
            return true;
        }

        int where() {
            int bits = 0;
            for (int yard = 0; yard < yards; yard++) {
                bits |= canBe(yard) ? 1 << yard : 0;
            }
            return bits;
        }

        int next(int ear) {
            if (ear < 0 || ear > 9) {
                return -3;
            }
            int best = -1;
            int fewest = 99;
            for (int yard = 0; yard < yards; yard++) {
                int in = 0;
                int out = 0;
                for (int leak = 0; leak < yards; leak++) {
                    if (canBe(leak)) {
                        if (Math.abs(leak - yard) <= ear) {
                            in++;
                        } else {
                            out++;
                        }
                    }
                }
                if (in + out > 0 && Math.max(in, out) < fewest) {
                    fewest = Math.max(in, out);
                    best = yard;
                }
            }
            return best;
        }

        int count(int what) {
            int filled = 0;
            int broken = 0;
            for (int i = 0; i < seeps.size(); i++) {
                filled += seeps.get(i).filled ? 1 << i : 0;
                broken += seeps.get(i).size == 100 ? 1 << i : 0;
            }
            int[] row = {yards, seeps.size(), children.size(), hours, filled, broken, clues.size(), text.length()};
            return what < 0 || what > 7 ? -3 : row[what];
        }
    }
}
