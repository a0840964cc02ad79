import java.lang.reflect.Method;
import java.util.Arrays;
import java.util.Comparator;

/** Runs every method that says a sentence, and prints each answer that is not due with the sentence that it breaks. */
final class Due {
    static final int NONE = -1, UNKNOWN = -2, OUTSIDE = -3, NOT = -4, FULL = -5;
    static final int LEAST = Integer.MIN_VALUE, MOST = Integer.MAX_VALUE;
    private static int wrong = 0;
    private static String sentence = "";

    private Due() {
    }

    static void run(Class<?> tests) throws ReflectiveOperationException {
        Method[] methods = tests.getDeclaredMethods();
        Arrays.sort(methods, Comparator.comparing(Method::getName));
        int count = 0;
        for (Method method : methods) {
            Says says = method.getAnnotation(Says.class);
            if (says != null) {
                sentence = method.getName() + ", \"" + says.value() + "\"";
                method.invoke(null);
                count++;
            }
        }
        System.out.println(count + " sentences, " + (wrong == 0 ? "all answers are as due" : wrong + " answers are not as due"));
        if (wrong != 0 || count == 0) {
            System.exit(1);
        }
    }

    static void due(String call, long got, long want) {
        if (got != want) {
            wrong++;
            System.out.println(sentence + ": " + call + " answered " + got + ", due is " + want);
        }
    }

    static void same(String call, String got, String want) {
        if (!got.equals(want)) {
            wrong++;
            System.out.println(sentence + ": " + call + " left " + got + ", due is " + want);
        }
    }

    /** The calls that writing it takes, eight bytes in each. */
    static void write(DikeWatch x, String text) {
        for (int from = 0; from < text.length(); from += 8) {
            int n = Math.min(8, text.length() - from);
            long bytes = 0;
            for (int i = 0; i < n; i++) {
                bytes |= (long) text.charAt(from + i) << 8 * i;
            }
            due("write of '" + text + "'", x.write(bytes, n), from + n);
        }
    }

    static void tell(DikeWatch x, String text) {
        write(x, text);
        due("dike() of '" + text + "'", x.dike(), text.split(";").length);
    }

    static DikeWatch told(String text) {
        DikeWatch x = new DikeWatch();
        tell(x, text);
        return x;
    }

    /** Where the fault of a text is, told to a new object; a text without one can be done, another cannot. */
    static void fault(String text, int want) {
        fault(new DikeWatch(), text, want);
    }

    static void fault(DikeWatch x, String text, int want) {
        write(x, text);
        due("fault() of '" + text + "'", x.fault(), want);
        due("dike() of '" + text + "'", x.dike(), want == NONE ? text.split(";").length : NOT);
        due("erase() of '" + text + "'", x.erase(), want == NONE ? 0 : text.length());
    }

    static String lines(String line, int n) {
        return (line + ";").repeat(n - 1) + line;
    }

    /** Hours in as few calls as they take. */
    static void pass(DikeWatch x, int hours) {
        for (int left = hours; left > 0; left -= 99) {
            x.go(Math.min(99, left));
        }
    }

    /** All that can be asked of how things are, in some 60 calls: for at most two seeps and three children. */
    static String face(DikeWatch x) {
        StringBuilder all = new StringBuilder();
        for (int what = 0; what < 8; what++) {
            all.append(x.count(what)).append(' ');
        }
        all.append("tide ");
        for (int hour = 0; hour < 12; hour++) {
            all.append(x.tide(hour)).append(' ');
        }
        for (int seep = 0; seep < 2; seep++) {
            all.append("seep ");
            for (int what = 0; what < 5; what++) {
                all.append(x.seep(seep, what)).append(' ');
            }
        }
        for (int child = 0; child < 3; child++) {
            all.append("child ");
            for (int what = 0; what < 7; what++) {
                all.append(x.child(child, what)).append(' ');
            }
        }
        return all.append("where ").append(x.where()).append(" fault ").append(x.fault()).toString();
    }
}
