/** No call throws or changes anything but finding(), findings() where it is refused, whatever its numbers are. */
public final class RefusalTest {
    private static final int[] ODD = {Integer.MIN_VALUE, Integer.MIN_VALUE + 1, -1000, -1, 0, 1, 2, 3, 7, 39, 41, 61,
        98, 99, 100, 301, 999, 1000, 1 << 30, Integer.MAX_VALUE - 1, Integer.MAX_VALUE};
    private static final int CALLS = 39;

    public static void main(String[] args) {
        for (int state = 0; state < 4; state++) {
            for (int call = 0; call < CALLS; call++) {
                all(state, call);
            }
        }
        Due.end("RefusalTest");
    }

    private static LuckJars inState(int state) {
        if (state == 0) {
            return new LuckJars();
        }
        LuckJars x = Due.placed(state == 1 ? "h9999o9999" : "h3405 w2311 g1618 k4215 o1922 c2309 h0100");
        Due.row(x, 0, 5, 10, 6);
        x.row(2, 0);
        x.keep(2);
        for (int deed = 0; state == 3 && deed < 40; deed++) {
            x.spring();
        }
        x.house(1, 3);
        x.odds(1, 3);
        return x;
    }

    private static void all(int state, int call) {
        for (int a : ODD) {
            for (int b : ODD) {
                LuckJars x = inState(state);
                long before = x.digest();
                int asked = x.asked();
                long upper = x.upper();
                long lower = x.lower();
                int found = found(x);
                int got = answer(x, call, a, b);
                if (got >= 0) {
                    continue;
                }
                String told = "state " + state + ", call " + call + " by " + a + ", " + b;
                Due.is(told + ": digest", x.digest(), before);
                Due.is(told + ": asked", x.asked(), asked);
                Due.is(told + ": upper", x.upper(), upper);
                Due.is(told + ": lower", x.lower(), lower);
                Due.is(told + ": findings", found(x), found + (got == LuckJars.FINDING ? 1 : 0));
            }
        }
    }

    private static int found(LuckJars x) {
        int sum = 0;
        for (int f = 1; f <= 5; f++) {
            sum += x.findings(f);
        }
        return sum;
    }

    private static int answer(LuckJars x, int call, int a, int b) {
        switch (call) {
            case 0: return x.row(a, b);
            case 1: return x.lay(a, b, a);
            case 2: return x.at(a, b);
            case 3: return x.tear(a);
            case 4: return x.copy(0, a, 0, b, a);
            case 5: return x.copy(0, a, 0, b, b);
            case 6: return x.copy(a, 0, b, 0, 0);
            case 7: return x.mean(a);
            case 8: return x.text(a, b);
            case 9: return x.put(a, b, a);
            case 10: return x.fault(a);
            case 11: return x.place(a);
            case 12: return x.house(a, b);
            case 13: return x.mark(a, b);
            case 14: return x.worth(a, b);
            case 15: return x.lend(a, b, 1);
            case 16: return x.lend(0, a, b);
            case 17: return x.leave(a, b);
            case 18: return x.take(a, b);
            case 19: return x.undo(a);
            case 20: return x.keep(a);
            case 21: return x.on(a);
            case 22: return x.later(a, b);
            case 23: return x.when(a);
            case 24: return x.lacks(a);
            case 25: return x.lending(a);
            case 26: return x.greedy(a);
            case 27: return x.kinds(a, b);
            case 28: return x.test(a, b);
            case 29: return x.jars(a, b);
            case 30: return x.duel(a, b, 2);
            case 31: return x.duel(0, a, b);
            case 32: return x.odds(a, b);
            case 33: return x.mid(a);
            case 34: return x.lots(a, b);
            case 35: return x.day();
            case 36: return x.spring();
            case 37: return x.share();
            default: return x.best();
        }
    }
}
