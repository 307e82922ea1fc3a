import java.lang.reflect.Method;
import java.util.HashMap;
import java.util.Map;

/** Runs of calls by fixed seeds, each answer held against the model's. */
public final class ModelTest {
    // What a place and a step may take at the most: an object is promised for 512 calls.
    private static final int CALLS = 512, SETTLING = 90, RUNS = 4000;
    private static final String[] NAMES = {"row", "lay", "at", "tear", "copy", "mean", "text", "put", "fault", "place",
        "house", "mark", "worth", "day", "spring", "lend", "leave", "take", "undo", "keep", "on", "works", "later",
        "when", "lacks", "share", "best", "lending", "greedy", "kinds", "test", "jars", "duel", "odds", "mid", "lots",
        "count", "findings", "digest"};
    // How often each is called, beside the others: deeds and advice more than rows.
    private static final int[] OFTEN = {2, 4, 3, 1, 5, 2, 1, 2, 2, 1,
        6, 6, 3, 12, 10, 14, 16, 14, 2, 3, 3, 3, 5,
        4, 4, 6, 1, 5, 4, 5, 5, 3, 2, 5, 4, 3,
        2, 1, 2};
    private static final int[] EXTREMES = {Integer.MIN_VALUE, Integer.MAX_VALUE, -1, 1 << 30, -(1 << 30), 0};

    private final Map<String, Method> calls = byName(LuckJars.class);
    private final Map<String, Method> modelCalls = byName(Model.class);
    private final LuckJars x = new LuckJars();
    private final Model model = new Model();
    private long lot;

    private ModelTest(int seed) {
        lot = seed;
    }

    public static void main(String[] args) throws ReflectiveOperationException {
        for (int run = 0; run < RUNS; run++) {
            new ModelTest(run).run(run);
        }
        Due.end("ModelTest");
    }

    private static Map<String, Method> byName(Class<?> in) {
        Map<String, Method> found = new HashMap<>();
        for (Method method : in.getDeclaredMethods()) {
            found.put(method.getName(), method);
        }
        return found;
    }

    private int below(int bound) {
        lot = lot * 6364136223846793005L + 1442695040888963407L;
        return (int) ((lot >>> 33) % bound);
    }

    private void run(int run) throws ReflectiveOperationException {
        int done = layPairs(below(3)) + settle(0);
        while (done < CALLS - SETTLING) {
            if (below(120) == 0) {
                done += settle(below(4));
            }
            if (below(40) == 0) {
                done += layPairs(below(3));
            }
            done += step(run);
        }
    }

    // A row of what a jar is worth to one kind, so that kinds are found by it; now and then one number is another one.
    private int layPairs(int r) {
        int pairs = below(4);
        int kind = below(6);
        Due.is("row", x.row(r, 2 * pairs), model.row(r, 2 * pairs));
        for (int k = 0; k < pairs; k++) {
            int jar = below(below(2) == 0 ? 100 : 8);
            int worth = Model.worthTo(kind, jar) + (below(12) == 0 ? 1 : 0);
            Due.is("lay a jar", x.lay(r, 2 * k, jar), model.lay(r, 2 * k, jar));
            Due.is("lay a worth", x.lay(r, 2 * k + 1, worth), model.lay(r, 2 * k + 1, worth));
        }
        return 1 + 2 * pairs;
    }

    // Mostly a place without a fault; now and then one sign of it is another one.
    private int settle(int t) {
        StringBuilder line = new StringBuilder();
        int houses = 2 + below(6);
        for (int i = 0; i < houses; i++) {
            line.append(" ".repeat(below(3)));
            line.append("hwgkoc".charAt(below(6)));
            line.append(below(10)).append(below(10)).append(below(below(10) + 1)).append(below(10));
        }
        Due.is("text", x.text(t, line.length()), model.text(t, line.length()));
        for (int i = 0; i < line.length(); i++) {
            Due.is("put", x.put(t, i, line.charAt(i)), model.put(t, i, line.charAt(i)));
        }
        if (below(4) == 0) {
            int i = below(line.length());
            int sign = " hwgkoc019x".charAt(below(11));
            Due.is("put another", x.put(t, i, sign), model.put(t, i, sign));
        }
        Due.is("fault of " + line, x.fault(t), model.fault(t));
        Due.is("place of " + line, x.place(t), model.place(t));
        return line.length() + 4;
    }

    private int step(int run) throws ReflectiveOperationException {
        String name = NAMES[drawn()];
        int[] numbers = {number(0), number(1), number(2), number(3), number(4)};
        shape(name, numbers);
        StringBuilder told = new StringBuilder("run " + run + ": " + name);
        for (int i = 0; i < calls.get(name).getParameterCount(); i++) {
            told.append(' ').append(numbers[i]);
        }
        String call = told.toString();
        Due.is(call, answer(calls.get(name), x, numbers), answer(modelCalls.get(name), model, numbers));
        Due.is(call + ": asked", x.asked(), model.asked());
        if (below(5) != 0) {
            return 2;
        }
        Due.is(call + ": upper", x.upper(), model.upper());
        Due.is(call + ": lower", x.lower(), model.lower());
        Due.is(call + ": finding", x.finding(), model.finding());
        Due.is(call + ": digest", x.digest(), model.digest());
        for (int f = 1; f <= 5; f++) {
            Due.is(call + ": findings", x.findings(f), model.findings(f));
        }
        return 11;
    }

    private static long answer(Method call, Object on, int[] numbers) throws ReflectiveOperationException {
        Object[] arguments = new Object[call.getParameterCount()];
        for (int i = 0; i < arguments.length; i++) {
            arguments[i] = numbers[i];
        }
        return ((Number) call.invoke(on, arguments)).longValue();
    }

    private int drawn() {
        int sum = 0;
        for (int often : OFTEN) {
            sum += often;
        }
        int left = below(sum);
        int which = 0;
        while (left >= OFTEN[which]) {
            left -= OFTEN[which];
            which++;
        }
        return which;
    }

    // Mostly what a house, a kind or a row can be; now and then a cup's number, beyond it, or far off.
    private int number(int place) {
        int kind = below(100);
        if (kind < 2) {
            return EXTREMES[below(EXTREMES.length)];
        }
        if (kind < 5) {
            return below(4) - 2;
        }
        if (kind < 8) {
            return below(310);
        }
        return place == 0 && kind < 90 ? below(3) : kind < 70 ? below(7) : below(41);
    }

    // What would else be refused nearly always is brought nearer to what fits.
    private void shape(String name, int[] numbers) {
        switch (name) {
            case "row":
                numbers[1] &= ~1;
                break;
            case "undo":
                numbers[0] = below(2) == 0 ? numbers[1] : model.count(2) - numbers[1] % 8;
                break;
            case "greedy":
                numbers[0] = numbers[0] < 0 ? numbers[0] : model.count(6) - 7 * (numbers[0] % 4) + numbers[1] % 3;
                break;
            case "kinds":
            case "test":
                numbers[1] = below(8) == 0 ? numbers[1] : below(3);
                break;
            case "lots":
                numbers[1] *= 99991;
                break;
            default:
                break;
        }
    }
}
