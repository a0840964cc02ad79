import java.util.function.Consumer;
import java.util.function.ToLongFunction;

/** Each refused call leaves all as it was: what can be asked, what is kept, and what comes of it in later hours. */
public final class RefusalsTest {
    private static final int UNKNOWN = Due.UNKNOWN, OUTSIDE = Due.OUTSIDE, NOT = Due.NOT, FULL = Due.FULL;

    public static void main(String[] args) throws ReflectiveOperationException {
        Due.run(RefusalsTest.class);
    }

    /** In the midst of a night, with something of everything, and nothing kept in 1. */
    private static DikeWatch lived() {
        DikeWatch x = Due.told("dike 6;tide 0 5;tide 3 2;seep 1 40 9 4;seep 4 90 5 0;plain 0 1 2;tired 5 2 9;hoax 2 1 3");
        x.go(1);
        x.keep(0);
        x.fill(1);
        x.go(1);
        x.seen(2, 1, 1);
        x.paid(2, 8);
        Due.write(x, "dry;dike 3");
        return x;
    }

    private static String all(DikeWatch x) {
        StringBuilder all = new StringBuilder(Due.face(x));
        all.append(" keeps ").append(x.back(1));
        x.go(3);
        all.append(" then ").append(Due.face(x));
        all.append(" back ").append(x.back(0)).append(' ').append(Due.face(x));
        return all.toString();
    }

    private static void refused(String call, ToLongFunction<DikeWatch> made, int want) {
        refused(call, x -> { }, made, want);
    }

    private static void refused(String call, Consumer<DikeWatch> ahead, ToLongFunction<DikeWatch> made, int want) {
        DikeWatch x = lived();
        DikeWatch y = lived();
        ahead.accept(x);
        ahead.accept(y);
        Due.due(call, made.applyAsLong(x), want);
        Due.same(call, all(x), all(y));
    }

    @Says("Refused, and nothing changes: UNKNOWN (no such YARD, SEEP, CHILD; a set with such)")
    static void unknown() {
        for (int far : new int[] {-1, 6, Due.LEAST, Due.MOST}) {
            refused("seep(" + far + ", 1)", x -> x.seep(far, 1), UNKNOWN);
            refused("child(" + far + ", 1)", x -> x.child(far, 1), UNKNOWN);
            refused("as(" + far + ", 0)", x -> x.as(far, 0), UNKNOWN);
            refused("fill(" + far + ")", x -> x.fill(far), UNKNOWN);
            refused("keep(" + far + ")", x -> x.keep(far), UNKNOWN);
            refused("back(" + far + ")", x -> x.back(far), UNKNOWN);
            refused("later(" + far + ", 9, 0)", x -> x.later(far, 9, 0), UNKNOWN);
            refused("later(" + far + ", 9, 1)", x -> x.later(far, 9, 1), UNKNOWN);
            refused("breaks(" + far + ")", x -> x.breaks(far), UNKNOWN);
            refused("order(" + far + ", 2, 0)", x -> x.order(far, 2, 0), UNKNOWN);
            refused("storms(" + far + ", 9, 5, 0)", x -> x.storms(far, 9, 5, 0), UNKNOWN);
            refused("seen(" + far + ", 0, 0)", x -> x.seen(far, 0, 0), UNKNOWN);
            refused("paid(" + far + ", 0)", x -> x.paid(far, 0), UNKNOWN);
        }
        for (int set : new int[] {-1, 8, 9, Due.LEAST, Due.MOST}) {
            refused("missed(" + set + ")", x -> x.missed(set), UNKNOWN);
            refused("order(0, " + set + ", 0)", x -> x.order(0, set, 0), UNKNOWN);
        }
    }

    @Says("OUTSIDE (another number is not as told)")
    static void outside() {
        for (int far : new int[] {-2, 100, Due.LEAST, Due.MOST}) {
            refused("write(-1, " + far + ")", x -> x.write(-1L, far), OUTSIDE);
            refused("tide(" + far + ")", x -> x.tide(far), OUTSIDE);
            refused("seep(0, " + far + ")", x -> x.seep(0, far), OUTSIDE);
            refused("child(0, " + far + ")", x -> x.child(0, far), OUTSIDE);
            refused("as(0, " + far + ")", x -> x.as(0, far), OUTSIDE);
            refused("go(" + far + ")", x -> x.go(far), OUTSIDE);
            refused("later(0, " + far + ", 0)", x -> x.later(0, far, 0), OUTSIDE);
            refused("later(0, 9, " + far + ")", x -> x.later(0, 9, far), OUTSIDE);
            refused("watch(" + far + ")", x -> x.watch(far), OUTSIDE);
            refused("storms(1, " + far + ", 5, 0)", x -> x.storms(1, far, 5, 0), OUTSIDE);
            refused("storms(1, 9, " + far + ", 0)", x -> x.storms(1, 9, far, 0), OUTSIDE);
            refused("storms(1, 9, 5, " + far + ")", x -> x.storms(1, 9, 5, far), OUTSIDE);
            refused("guard(" + far + ", 0)", x -> x.guard(far, 0), OUTSIDE);
            refused("guard(0, " + far + ")", x -> x.guard(0, far), OUTSIDE);
            refused("seen(0, " + far + ", 0)", x -> x.seen(0, far, 0), OUTSIDE);
            refused("seen(0, 0, " + far + ")", x -> x.seen(0, 0, far), OUTSIDE);
            refused("paid(0, " + far + ")", x -> x.paid(0, far), OUTSIDE);
            refused("next(" + far + ")", x -> x.next(far), OUTSIDE);
            refused("count(" + far + ")", x -> x.count(far), OUTSIDE);
        }
        refused("order(0, 2, -2)", x -> x.order(0, 2, -2), OUTSIDE);
    }

    @Says("NOT (not now: as told)")
    static void notNow() {
        refused("dike()", x -> x.dike(), NOT);
        refused("dike() of nothing", x -> x.erase(), x -> x.dike(), NOT);
        refused("as(0, 2)", x -> x.as(0, 2), NOT);
        refused("as(2, 1)", x -> x.as(2, 1), NOT);
        refused("back(1)", x -> x.back(1), NOT);
        refused("breaks(0)", x -> x.breaks(0), NOT);
        refused("order(0, 1, 0)", x -> x.order(0, 1, 0), NOT);
        refused("order(0, 3, -1)", x -> x.order(0, 3, -1), NOT);
        refused("storms(0, 9, 5, 0)", x -> x.storms(0, 9, 5, 0), NOT);
    }

    @Says("FULL: the first of these that fits.")
    static void full() {
        refused("write(-1, 8)", x -> blanks(x, 193 - 10), x -> x.write(-1L, 8), FULL);
        refused("write(-1, 1)", x -> blanks(x, 200 - 10), x -> x.write(-1L, 1), FULL);
        refused("go(99)", x -> Due.pass(x, 9901 - 2), x -> x.go(99), FULL);
        Consumer<DikeWatch> sevenMore = x -> {
            for (int i = 0; i < 7; i++) {
                x.seen(5, 0, 0);
            }
        };
        refused("seen(0, 0, 0)", sevenMore, x -> x.seen(0, 0, 0), FULL);
        refused("paid(0, 9)", sevenMore, x -> x.paid(0, 9), FULL);
    }

    private static void blanks(DikeWatch x, int n) {
        for (int left = n; left > 0; left -= 8) {
            x.write(0x2020202020202020L, Math.min(8, left));
        }
    }
}
