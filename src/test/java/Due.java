/** What the tests share: answers held against those that are due, and places made from a line of text. */
final class Due {
    static final int NOTHING = 1, BEYOND = 2, UNLIKE = 3, NOUGHT = 4, SIZE = 5;
    static final int LEAST = Integer.MIN_VALUE, MOST = Integer.MAX_VALUE;

    // One fault can turn thousands of answers: the first ones tell enough.
    private static final int SHOWN = 40;

    private static int wrong = 0;

    private Due() {
    }

    static void is(String call, long got, long want) {
        if (got != want) {
            wrong++;
            if (wrong <= SHOWN) {
                System.out.println(call + " answered " + got + ", due is " + want);
            }
        }
    }

    /** A call that tells by asked(): it answered 1, and told what was wanted. */
    static void tells(String call, LuckJars x, long got, long want) {
        is(call, got, 1);
        is(call + " told", x.asked(), want);
    }

    /** A call with an answer of its own that tells besides. */
    static void both(String call, LuckJars x, long got, long want, long wantAsked) {
        is(call, got, want);
        is(call + " told", x.asked(), wantAsked);
    }

    static void chance(String call, LuckJars x, long got, long up, long low) {
        is(call, got, 1);
        is(call + " upper", x.upper(), up);
        is(call + " lower", x.lower(), low);
    }

    static void finds(String call, LuckJars x, long got, int finding) {
        is(call, got, LuckJars.FINDING);
        is(call + " finding", x.finding(), finding);
    }

    static void write(LuckJars x, int t, String line) {
        is("text of " + line, x.text(t, line.length()), line.length());
        for (int i = 0; i < line.length(); i++) {
            is("put of " + line, x.put(t, i, line.charAt(i)), 1032);
        }
    }

    static void row(LuckJars x, int r, int... numbers) {
        is("row", x.row(r, numbers.length), numbers.length);
        for (int i = 0; i < numbers.length; i++) {
            is("lay", x.lay(r, i, numbers[i]), 1);
        }
    }

    static LuckJars placed(String line) {
        LuckJars x = new LuckJars();
        write(x, 0, line);
        is("place of " + line, x.place(0), line.replace(" ", "").length() / 5);
        return x;
    }

    static void end(String test) {
        if (wrong > 0) {
            System.out.println(test + ": " + wrong + " wrong");
            System.exit(1);
        }
    }
}
