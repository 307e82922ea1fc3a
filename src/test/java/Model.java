import java.math.BigInteger;
import java.util.ArrayList;
import java.util.List;
import java.util.TreeMap;

/**
 * The document once more, written another way with the library's help, to hold LuckJars against: kinds are objects, a
 * place is its beginning and a list of deeds that are done anew for each question, chances are summed by how many
 * works there are.
 */
final class Model {
    private static final int BAD = -1, FULL = -2, FINDING = -3, STATE = -4, NONE = -9;

    private static class House {
        int brings(int jar, int day) {
            return jar;
        }

        int worth(int jar) {
            return jar;
        }
    }

    private static class Widow extends House {
        @Override
        int brings(int jar, int day) {
            return jar >> 1;
        }

        @Override
        int worth(int jar) {
            return 3 + jar;
        }
    }

    private static class Gambler extends House {
        @Override
        int worth(int jar) {
            return jar + jar;
        }
    }

    private static final class Greedy extends House {
        @Override
        int brings(int jar, int day) {
            return jar < 7 ? 0 : jar - 7;
        }

        @Override
        int worth(int jar) {
            return jar <= 20 ? jar : 0;
        }
    }

    private static final class Old extends Widow {
        @Override
        int brings(int jar, int day) {
            return 0;
        }

        @Override
        int worth(int jar) {
            return 2 * super.worth(jar);
        }
    }

    private static final class Cat extends Gambler {
        @Override
        int brings(int jar, int day) {
            return day % 2 == 1 ? 0 : super.brings(jar, day);
        }

        @Override
        int worth(int jar) {
            return super.worth(jar) < 5 ? 0 : super.worth(jar) - 5;
        }
    }

    private static final House[] KINDS = {
        new House(), new Widow(), new Gambler(), new Greedy(), new Old(), new Cat()};

    /** How things stand, with the deeds told by their own numbers: what, one house, another one, how much. */
    private final class Stand {
        int day;
        int quay;
        int each;
        final int[] jar = start.clone();

        Stand(List<int[]> deeds) {
            for (int[] deed : deeds) {
                act(deed);
            }
        }

        void act(int[] deed) {
            switch (deed[0]) {
                case 'd' -> {
                    day++;
                    for (int i = 0; i < jar.length; i++) {
                        jar[i] = Math.min(99, jar[i] + finds[i]);
                    }
                }
                case 's' -> springs();
                case 'l' -> {
                    jar[deed[1]] -= deed[3];
                    gets(deed[2], deed[3]);
                }
                case 'q' -> {
                    jar[deed[1]] -= deed[3];
                    quay += deed[3];
                }
                default -> { }
            }
        }

        void springs() {
            int shed = quay;
            for (int i = 0; i < jar.length; i++) {
                int put = kind[i].brings(jar[i], day);
                shed += put;
                jar[i] -= put;
            }
            each = 0;
            while (shed >= jar.length) {
                shed -= jar.length;
                each++;
            }
            quay = shed;
            for (int i = 0; i < jar.length; i++) {
                gets(i, each);
            }
        }

        void gets(int i, int cups) {
            for (int cup = 0; cup < cups; cup++) {
                if (jar[i] < 99) {
                    jar[i]++;
                } else {
                    quay++;
                }
            }
        }

        boolean off(int i) {
            return isOff(i, jar[i]);
        }

        int set() {
            int set = 0;
            for (int i = jar.length - 1; i >= 0; i--) {
                set = 2 * set + (off(i) ? 1 : 0);
            }
            return set;
        }

        int many() {
            return Integer.bitCount(set());
        }

        int brings() {
            int sum = 0;
            for (int i = 0; i < jar.length; i++) {
                sum += kind[i].brings(jar[i], day);
            }
            return sum;
        }
    }

    static int worthTo(int kind, int jar) {
        return KINDS[kind].worth(jar);
    }

    private final TreeMap<Integer, int[]> rows = new TreeMap<>();
    private final TreeMap<Integer, byte[]> texts = new TreeMap<>();
    private final TreeMap<Integer, List<int[]>> kept = new TreeMap<>();
    private House[] kind = new House[0];
    private int[] finds = new int[0];
    private int[] hard = new int[0];
    private int[] start = new int[0];
    private List<int[]> deeds = new ArrayList<>();
    private int told;
    private BigInteger up = BigInteger.ZERO;
    private BigInteger low = BigInteger.ONE;
    private int finding;
    private final int[] findings = new int[6];

    private int found(int f) {
        finding = f;
        findings[f]++;
        return FINDING;
    }

    private static boolean within(int v, int least, int most) {
        return v >= least && v <= most;
    }

    private boolean isHouse(int i) {
        return within(i, 0, kind.length - 1);
    }

    private boolean isOff(int i, int jar) {
        return kind[i].worth(jar) >= 5 * hard[i];
    }

    private Stand now() {
        return new Stand(deeds);
    }

    private Stand behind(int days) {
        Stand stand = now();
        for (int d = 0; d < days; d++) {
            stand.act(new int[] {'d'});
        }
        return stand;
    }

    private int tell(int v, int answer) {
        told = v;
        return answer;
    }

    int row(int r, int n) {
        if (!within(r, 0, 5) || n > 40) {
            return BAD;
        }
        if (n < 0) {
            return found(5);
        }
        rows.put(r, new int[n]);
        return n;
    }

    int lay(int r, int i, int v) {
        int answer = at(r, i);
        if (answer == 1) {
            rows.get(r)[i] = v;
        }
        return answer;
    }

    int at(int r, int i) {
        if (!within(r, 0, 5)) {
            return BAD;
        }
        if (!rows.containsKey(r)) {
            return found(1);
        }
        return within(i, 0, rows.get(r).length - 1) ? tell(rows.get(r)[i], 1) : found(2);
    }

    int tear(int r) {
        if (!within(r, 0, 5)) {
            return BAD;
        }
        return rows.remove(r) == null ? found(1) : 1;
    }

    int copy(int r, int i, int to, int j, int n) {
        if (!within(r, 0, 5) || !within(to, 0, 5)) {
            return BAD;
        }
        if (n < 0) {
            return found(5);
        }
        if (!rows.containsKey(r) || !rows.containsKey(to)) {
            return found(1);
        }
        int[] from = rows.get(r).clone();
        if (i < 0 || j < 0 || (long) i + n > from.length || (long) j + n > rows.get(to).length) {
            return found(2);
        }
        for (int k = 0; k < n; k++) {
            rows.get(to)[j + k] = from[i + k];
        }
        return 1;
    }

    int mean(int r) {
        if (!within(r, 0, 5)) {
            return BAD;
        }
        if (!rows.containsKey(r)) {
            return found(1);
        }
        BigInteger sum = BigInteger.ZERO;
        for (int v : rows.get(r)) {
            sum = sum.add(BigInteger.valueOf(v));
        }
        return rows.get(r).length == 0
            ? found(4) : tell(sum.divide(BigInteger.valueOf(rows.get(r).length)).intValueExact(), 1);
    }

    int text(int t, int n) {
        if (!within(t, 0, 3) || n > 60) {
            return BAD;
        }
        if (n < 0) {
            return found(5);
        }
        byte[] bytes = new byte[n];
        java.util.Arrays.fill(bytes, (byte) ' ');
        texts.put(t, bytes);
        return n;
    }

    int put(int t, int i, int v) {
        if (!within(t, 0, 3)) {
            return BAD;
        }
        byte[] bytes = texts.get(t);
        if (bytes == null) {
            return found(1);
        }
        if (!within(i, 0, bytes.length - 1)) {
            return found(2);
        }
        int was = 1000 + bytes[i];
        bytes[i] = (byte) v;
        return was;
    }

    int fault(int t) {
        if (!within(t, 0, 3)) {
            return BAD;
        }
        return texts.containsKey(t) ? faultOf(texts.get(t)) : found(1);
    }

    // Sign by sign: state 0 is between houses, 1 to 4 await a figure.
    private static int faultOf(byte[] bytes) {
        int state = 0;
        int many = 0;
        for (int i = 0; i < bytes.length; i++) {
            int sign = bytes[i];
            if (state == 0) {
                boolean letter = sign > 0 && "hwgkoc".indexOf(sign) >= 0;
                if (sign != ' ' && (!letter || many == 7)) {
                    return i;
                }
                state = letter ? 1 : 0;
            } else {
                if (!within(sign, '0', '9')) {
                    return i;
                }
                state = (state + 1) % 5;
                many += state == 0 ? 1 : 0;
            }
        }
        return state != 0 || many < 2 ? bytes.length : NONE;
    }

    int place(int t) {
        if (!within(t, 0, 3)) {
            return BAD;
        }
        if (!texts.containsKey(t)) {
            return found(1);
        }
        if (faultOf(texts.get(t)) != NONE) {
            return STATE;
        }
        String all = new String(texts.get(t), java.nio.charset.StandardCharsets.ISO_8859_1).replace(" ", "");
        int n = all.length() / 5;
        kind = new House[n];
        finds = new int[n];
        hard = new int[n];
        start = new int[n];
        for (int i = 0; i < n; i++) {
            String one = all.substring(5 * i, 5 * i + 5);
            kind[i] = KINDS["hwgkoc".indexOf(one.charAt(0))];
            finds[i] = Integer.parseInt(one.substring(1, 2));
            hard[i] = Integer.parseInt(one.substring(2, 3));
            start[i] = Integer.parseInt(one.substring(3));
        }
        deeds = new ArrayList<>();
        kept.clear();
        return n;
    }

    private int numberOf(House k) {
        return java.util.Arrays.asList(KINDS).indexOf(k);
    }

    private int ofHouse(int i, int what) {
        Stand s = now();
        int[] all = {numberOf(kind[i]), finds[i], hard[i], s.jar[i], kind[i].brings(s.jar[i], s.day),
            kind[i].worth(s.jar[i]), s.off(i) ? 1 : 0};
        return all[what];
    }

    int house(int i, int what) {
        return isHouse(i) && within(what, 0, 6) ? tell(ofHouse(i, what), 1) : BAD;
    }

    int mark(int i, int k) {
        if (!isHouse(i) || !within(k, 1, 5)) {
            return BAD;
        }
        if (!KINDS[k].getClass().isInstance(kind[i])) {
            return found(3);
        }
        int jar = now().jar[i];
        int day = now().day;
        int worth = kind[i].worth(jar);
        return switch (k) {
            case 1 -> worth - jar;
            case 2 -> worth - jar + 100;
            case 3 -> KINDS[0].brings(jar, day) - kind[i].brings(jar, day);
            case 4 -> worth - KINDS[1].worth(jar);
            default -> KINDS[2].worth(jar) - worth;
        };
    }

    int worth(int i, int v) {
        return isHouse(i) && within(v, 0, 99) ? kind[i].worth(v) : BAD;
    }

    private boolean does(int... deed) {
        if (deeds.size() == 40) {
            return false;
        }
        deeds.add(deed);
        return true;
    }

    int day() {
        if (kind.length == 0 || now().day == 99) {
            return STATE;
        }
        return does('d') ? now().day : FULL;
    }

    int spring() {
        if (kind.length == 0) {
            return STATE;
        }
        return does('s') ? tell(now().quay, now().each) : FULL;
    }

    int lend(int i, int j, int v) {
        if (!isHouse(i) || !isHouse(j) || i == j || !within(v, 1, 99)) {
            return BAD;
        }
        if (now().jar[i] < v) {
            return STATE;
        }
        return does('l', i, j, v) ? now().jar[j] : FULL;
    }

    int leave(int i, int v) {
        if (!isHouse(i) || !within(v, 1, 99)) {
            return BAD;
        }
        if (now().jar[i] < v) {
            return STATE;
        }
        return does('q', i, 0, v) ? now().quay : FULL;
    }

    int take(int i, int v) {
        if (!isHouse(i) || !within(v, 1, 99)) {
            return BAD;
        }
        if (now().quay < v || now().jar[i] > 99 - v) {
            return STATE;
        }
        return does('q', i, 0, -v) ? now().jar[i] : FULL;
    }

    int undo(int n) {
        if (!within(n, 0, deeds.size())) {
            return BAD;
        }
        int undone = deeds.size() - n;
        deeds = new ArrayList<>(deeds.subList(0, n));
        return undone;
    }

    int keep(int k) {
        if (!within(k, 0, 2)) {
            return BAD;
        }
        if (kind.length == 0) {
            return STATE;
        }
        kept.put(k, new ArrayList<>(deeds));
        return deeds.size();
    }

    int on(int k) {
        if (!within(k, 0, 2)) {
            return BAD;
        }
        if (!kept.containsKey(k)) {
            return found(1);
        }
        deeds = new ArrayList<>(kept.get(k));
        return deeds.size();
    }

    int works() {
        return tell(now().many(), now().set());
    }

    int later(int i, int n) {
        if (!isHouse(i) || !within(n, 0, 60)) {
            return BAD;
        }
        Stand s = behind(n);
        int jar = s.jar[i];
        s.springs();
        return tell(s.jar[i], jar);
    }

    int when(int i) {
        if (!isHouse(i)) {
            return BAD;
        }
        for (int n = 0; n <= 60; n++) {
            if (behind(n).off(i)) {
                return tell(kind[i].worth(behind(n).jar[i]), n);
            }
        }
        return NONE;
    }

    private int lackOf(int i) {
        int jar = now().jar[i];
        for (int more = 0; jar + more < 100; more++) {
            if (isOff(i, jar + more)) {
                return more;
            }
        }
        return NONE;
    }

    int lacks(int i) {
        if (!isHouse(i)) {
            return BAD;
        }
        int more = lackOf(i);
        return more == NONE ? NONE : tell(kind[i].worth(now().jar[i] + more), more);
    }

    int share() {
        if (kind.length == 0) {
            return STATE;
        }
        int[] best = sharedFrom(0, now().quay);
        return tell(best[1], best[0]);
    }

    // The best set of the houses from i on by what is on the quay, and what it takes.
    private int[] sharedFrom(int i, int quay) {
        if (i == kind.length) {
            return new int[2];
        }
        int[] without = sharedFrom(i + 1, quay);
        int lack = lackOf(i);
        if (lack == NONE || lack > quay) {
            return without;
        }
        int[] with = sharedFrom(i + 1, quay - lack);
        with[0] |= 1 << i;
        with[1] += lack;
        int more = Integer.bitCount(with[0]) - Integer.bitCount(without[0]);
        return more > 0 || more == 0 && with[0] < without[0] ? with : without;
    }

    int best() {
        if (kind.length == 0) {
            return STATE;
        }
        int best = 0;
        int[] many = new int[21];
        for (int n = 20; n >= 0; n--) {
            Stand s = behind(n);
            s.springs();
            many[n] = s.many();
            best = n == 20 || many[n] >= many[best] ? n : best;
        }
        return tell(many[best], best);
    }

    int lending(int v) {
        if (!within(v, 1, 99)) {
            return BAD;
        }
        if (kind.length == 0) {
            return STATE;
        }
        int best = NONE;
        int most = now().many();
        for (int pair = 0; pair < 77; pair++) {
            int i = pair / 10;
            int j = pair % 10;
            if (isHouse(i) && isHouse(j) && i != j && now().jar[i] >= v) {
                Stand s = now();
                s.act(new int[] {'l', i, j, v});
                if (s.many() > most) {
                    most = s.many();
                    best = pair;
                }
            }
        }
        return best == NONE ? NONE : tell(most, best);
    }

    int greedy(int v) {
        if (!within(v, 0, 999)) {
            return BAD;
        }
        if (kind.length == 0) {
            return STATE;
        }
        Stand s = now();
        List<Integer> sets = new ArrayList<>();
        for (int set = 0; set < Math.pow(2, kind.length); set++) {
            int sum = s.brings();
            for (int i = 0; i < kind.length; i++) {
                if ((set & 1 << i) > 0) {
                    sum += KINDS[3].brings(s.jar[i], s.day) - kind[i].brings(s.jar[i], s.day);
                }
            }
            if (sum == v) {
                sets.add(set);
            }
        }
        return sets.isEmpty() ? NONE : tell(sets.get(0), sets.size());
    }

    private int pairs(int i, int r) {
        if (!isHouse(i) || !within(r, 0, 5)) {
            return BAD;
        }
        if (!rows.containsKey(r)) {
            return found(1);
        }
        int[] row = rows.get(r);
        if (row.length % 2 == 1) {
            return found(5);
        }
        for (int k = 0; k < row.length; k += 2) {
            if (!within(row[k], 0, 99) || !within(row[k + 1], 0, 300)) {
                return found(3);
            }
        }
        return 1;
    }

    int kinds(int i, int r) {
        int answer = pairs(i, r);
        if (answer != 1) {
            return answer;
        }
        int set = 63;
        for (int k = 0; k < rows.get(r).length; k += 2) {
            for (int one = 0; one < 6; one++) {
                if (KINDS[one].worth(rows.get(r)[k]) != rows.get(r)[k + 1]) {
                    set &= ~(1 << one);
                }
            }
        }
        return set;
    }

    int test(int i, int r) {
        int set = kinds(i, r);
        if (set <= 0) {
            return set == 0 ? NONE : set;
        }
        int best = 0;
        int least = 9;
        for (int jar = 0; jar < 100; jar++) {
            int[] alike = new int[301];
            int most = 0;
            for (int one = 0; one < 6; one++) {
                if ((set & 1 << one) > 0) {
                    most = Math.max(most, ++alike[KINDS[one].worth(jar)]);
                }
            }
            if (most < least) {
                least = most;
                best = jar;
            }
        }
        return tell(least, best);
    }

    int jars(int i, int w) {
        if (!isHouse(i) || !within(w, 0, 300)) {
            return BAD;
        }
        List<Integer> fit = new ArrayList<>();
        for (int jar = 0; jar < 100; jar++) {
            if (kind[i].worth(jar) == w) {
                fit.add(jar);
            }
        }
        return fit.isEmpty() ? NONE : tell(fit.get(0), fit.size());
    }

    int duel(int i, int j, int n) {
        if (!isHouse(i) || !isHouse(j) || i == j || !within(n, 0, 6)) {
            return BAD;
        }
        Stand s = now();
        return 500 + value(i, j, new int[] {s.jar[i], s.jar[j], s.quay}, 0, n);
    }

    // The first one wants it great, the second one small.
    private int value(int i, int j, int[] s, int who, int turns) {
        if (turns == 0) {
            return kind[i].worth(s[0]) - kind[j].worth(s[1]);
        }
        int takes = Math.min(Math.min(9, s[2]), 99 - s[who]);
        int leaves = Math.min(9, s[who]);
        TreeMap<Integer, Integer> values = new TreeMap<>();
        for (int move : new int[] {takes, -leaves, 0}) {
            int[] then = s.clone();
            then[who] += move;
            then[2] -= move;
            values.put(value(i, j, then, 1 - who, turns - 1), move);
        }
        return who == 0 ? values.lastKey() : values.firstKey();
    }

    private int chance(BigInteger a, BigInteger b) {
        BigInteger common = a.gcd(b);
        up = a.divide(common);
        low = b.divide(common);
        return 1;
    }

    // ways[k]: of twelfths by how many houses there are, those by which k works come off.
    private BigInteger[] ways(int p) {
        BigInteger[] ways = new BigInteger[9];
        java.util.Arrays.fill(ways, BigInteger.ZERO);
        ways[0] = BigInteger.ONE;
        for (int i = 0; i < kind.length; i++) {
            int off = (isOff(i, now().jar[i]) ? p : 0) + (isOff(i, behind(1).jar[i]) ? 12 - p : 0);
            for (int k = 8; k >= 0; k--) {
                BigInteger one = k == 0 ? BigInteger.ZERO : ways[k - 1].multiply(BigInteger.valueOf(off));
                ways[k] = ways[k].multiply(BigInteger.valueOf(12 - off)).add(one);
            }
        }
        return ways;
    }

    int odds(int v, int p) {
        if (!within(v, 0, 7) || !within(p, 0, 12)) {
            return BAD;
        }
        if (kind.length == 0) {
            return STATE;
        }
        BigInteger sum = BigInteger.ZERO;
        BigInteger[] ways = ways(p);
        for (int k = v; k < 9; k++) {
            sum = sum.add(ways[k]);
        }
        return chance(sum, BigInteger.valueOf(12).pow(kind.length));
    }

    int mid(int p) {
        if (!within(p, 0, 12)) {
            return BAD;
        }
        if (kind.length == 0) {
            return STATE;
        }
        BigInteger sum = BigInteger.ZERO;
        BigInteger[] ways = ways(p);
        for (int k = 0; k < 9; k++) {
            sum = sum.add(ways[k].multiply(BigInteger.valueOf(k)));
        }
        return chance(sum, BigInteger.valueOf(12).pow(kind.length));
    }

    int lots(int n, int seed) {
        if (!within(n, 1, 20) || !within(seed, 1, 2147483646)) {
            return BAD;
        }
        if (kind.length == 0) {
            return STATE;
        }
        if (deeds.size() > 40 - n) {
            return FULL;
        }
        BigInteger lot = BigInteger.valueOf(seed);
        for (int k = 0; k < n; k++) {
            lot = lot.multiply(BigInteger.valueOf(48271)).mod(BigInteger.valueOf(2147483647));
            int it = lot.intValueExact();
            Stand s = now();
            int i = it / 8 % kind.length;
            if (it % 8 == 0) {
                does('s');
            } else if (it % 8 == 1) {
                does('q', i, 0, Math.min(9, s.jar[i]));
            } else if (it % 8 == 2) {
                does('q', i, 0, -Math.min(9, Math.min(s.quay, 99 - s.jar[i])));
            } else {
                does(s.day < 99 ? 'd' : 'n');
            }
        }
        return now().quay;
    }

    int asked() {
        return told;
    }

    long upper() {
        return up.longValueExact();
    }

    long lower() {
        return low.longValueExact();
    }

    int count(int what) {
        if (!within(what, 0, 11)) {
            return BAD;
        }
        Stand s = now();
        int widows = 0;
        int gamblers = 0;
        for (House k : kind) {
            widows += k instanceof Widow ? 1 : 0;
            gamblers += k instanceof Gambler ? 1 : 0;
        }
        int[] all = {kind.length, s.day, deeds.size(), s.quay, java.util.Arrays.stream(s.jar).sum(), s.many(),
            s.brings(), rows.size(), texts.size(), kept.size(), widows, gamblers};
        return all[what];
    }

    int finding() {
        return finding;
    }

    int findings(int f) {
        return within(f, 1, 5) ? findings[f] : BAD;
    }

    long digest() {
        List<Integer> all = new ArrayList<>();
        for (int what = 0; what < 12; what++) {
            all.add(count(what));
        }
        for (int k = 0; k < 7 * kind.length; k++) {
            all.add(ofHouse(k / 7, k % 7));
        }
        for (int k = 0; k < 3; k++) {
            all.add(kept.containsKey(k) ? kept.get(k).size() : -1);
        }
        for (int r = 0; r < 6; r++) {
            int[] row = rows.get(r);
            all.add(row == null ? -1 : row.length);
            for (int i = 0; row != null && i < row.length; i++) {
                all.add(row[i]);
            }
        }
        for (int t = 0; t < 4; t++) {
            byte[] bytes = texts.get(t);
            all.add(bytes == null ? -1 : bytes.length);
            for (int i = 0; bytes != null && i < bytes.length; i++) {
                all.add((int) bytes[i]);
            }
        }
        long h = 17;
        for (int v : all) {
            h = 31 * h + v;
        }
        return h;
    }
}
