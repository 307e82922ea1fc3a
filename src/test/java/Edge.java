import java.lang.reflect.Field;
import java.util.Arrays;
import java.util.function.Supplier;
import java.util.function.ToLongFunction;

/** What the edge tests share: a call that is refused changes nothing but finding(), findings(). */
final class Edge {
    static final String ALL_KINDS = "h3405 w2311 g1618 k4215 o1922 c2309 h0100";

    private static final int FINDINGS = 5, KEPT_PLACES = 3;

    private Edge() {
    }

    /** Refused without a finding (or answered by NONE): two new objects are told apart by nothing behind it. */
    static void refused(String call, Supplier<LuckJars> making, int want, ToLongFunction<LuckJars> calling) {
        LuckJars x = making.get();
        Due.is(call, calling.applyAsLong(x), want);
        LuckJars twin = making.get();
        int[] found = findings(twin);
        stays(call, x, twin, found, twin.finding());
    }

    /** Refused by a finding, which is told and counted once. */
    static void found(String call, Supplier<LuckJars> making, int finding, ToLongFunction<LuckJars> calling) {
        LuckJars x = making.get();
        Due.is(call, calling.applyAsLong(x), LuckJars.FINDING);
        LuckJars twin = making.get();
        int[] found = findings(twin);
        found[finding]++;
        stays(call, x, twin, found, finding);
    }

    private static void stays(String call, LuckJars x, LuckJars twin, int[] found, int finding) {
        Due.is(call + ", finding()", x.finding(), finding);
        for (int f = 1; f <= FINDINGS; f++) {
            Due.is(call + ", findings(" + f + ")", x.findings(f), found[f]);
        }
        Due.is(call + ", asked()", x.asked(), twin.asked());
        Due.is(call + ", upper()", x.upper(), twin.upper());
        Due.is(call + ", lower()", x.lower(), twin.lower());
        goesBackAlike(call, x, twin);
        for (int k = 0; k < KEPT_PLACES; k++) {
            if (twin.on(k) >= 0) {
                Due.is(call + ", on(" + k + ")", x.on(k), twin.count(2));
                goesBackAlike(call + ", kept " + k, x, twin);
            }
        }
    }

    // Deed by deed, down to the place as it was at first.
    private static void goesBackAlike(String call, LuckJars x, LuckJars twin) {
        Due.is(call + ", digest()", x.digest(), twin.digest());
        for (int deeds = twin.count(2) - 1; deeds >= 0; deeds--) {
            Due.is(call + ", undo(" + deeds + ")", x.undo(deeds), twin.undo(deeds));
            Due.is(call + ", digest() behind " + deeds + " deeds", x.digest(), twin.digest());
        }
    }

    private static int[] findings(LuckJars x) {
        int[] found = new int[FINDINGS + 1];
        for (int f = 1; f <= FINDINGS; f++) {
            found[f] = x.findings(f);
        }
        return found;
    }

    /** Numbers beyond both ends of least .. most, just beyond and far off. */
    static int[] beyond(int least, int most) {
        int[] all = {Due.LEAST, -1000, least - 1, most + 1, 1000000, Due.MOST};
        return Arrays.stream(all).filter(v -> v < least || v > most).toArray();
    }

    static void jars(String call, LuckJars x, int... want) {
        for (int i = 0; i < want.length; i++) {
            Due.tells(call + ": jar " + i, x, x.house(i, 3), want[i]);
        }
    }

    /** With rows, a text, deeds, a kept place, and something told, so that a refused call has much to spoil. */
    static LuckJars busy() {
        LuckJars x = Due.placed(ALL_KINDS);
        Due.row(x, 0, 4, 4, 5, 5);
        Due.row(x, 1, 7, -8, 9);
        x.row(2, 0);
        x.text(2, 3);
        x.text(3, 0);
        x.day();
        x.leave(2, 4);
        x.keep(1);
        x.lend(2, 0, 3);
        x.odds(3, 5);
        x.house(4, 3);
        return x;
    }

    /** Forty deeds done; something is in each of the jars and on the quay. */
    static LuckJars full() {
        LuckJars x = Due.placed("h0050 w0000 c0030");
        for (int deed = 0; deed < 39; deed++) {
            x.day();
        }
        x.leave(0, 2);
        x.house(2, 3);
        return x;
    }

    /**
     * On a day that forty deeds can't lead to: the place is told of it behind the calls' back, since the document
     * bounds the days all the same.
     */
    static LuckJars onDay(LuckJars x, int day) {
        try {
            Object story = read(x, "story");
            Object[] moments = (Object[]) read(story, "moments");
            Field dayNumber = opened(moments[x.count(2)], "dayNumber");
            dayNumber.setInt(moments[x.count(2)], day);
        } catch (ReflectiveOperationException changed) {
            throw new IllegalStateException("the day is held elsewhere now: mend Edge.onDay", changed);
        }
        Due.is("on day " + day, x.count(1), day);
        return x;
    }

    private static Object read(Object of, String name) throws ReflectiveOperationException {
        return opened(of, name).get(of);
    }

    private static Field opened(Object of, String name) throws ReflectiveOperationException {
        Field field = of.getClass().getDeclaredField(name);
        field.setAccessible(true);
        return field;
    }
}
