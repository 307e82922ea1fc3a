import java.util.Arrays;

/**
 * Luck that is put in and shared out each spring among the houses of a fishing place, kept in jars, lent and left on
 * the quay, as DOC.md promises it call by call.
 */
public final class LuckJars {
    public static final int BAD = -1, FULL = -2, FINDING = -3, STATE = -4, SPENT = -6, NONE = -9;

    private static final int NOTHING = 1, BEYOND = 2, UNLIKE = 3, NOUGHT = 4, SIZE = 5;
    private static final int FINDINGS = 5;

    private static final int HOUSE = 0, WIDOW = 1, GAMBLER = 2, GREEDY = 3, OLD = 4, CAT = 5;
    private static final int KINDS = 6;
    private static final byte[] LETTERS = {104, 119, 103, 107, 111, 99};

    private static final int ROWS = 6, ROW_PLACES = 40;
    private static final int TEXTS = 4, TEXT_PLACES = 60;
    private static final int MISSING = -1;
    private static final int BLANK = 32;
    private static final int PUT_BASE = 1000;

    private static final int LEAST_HOUSES = 2, MOST_HOUSES = 7, HOUSE_SIGNS = 5, HOUSE_TELLS = 7;
    private static final int JAR_FULL = 99, LAST_DAY = 99, MOST_DEEDS = 40, KEPT_PLACES = 3, COUNTS = 12;
    private static final int WIDOW_MORE = 3, CAT_LESS = 5, WORTH_FOR_HARD = 5;
    private static final int KEPT_BACK = 7, TURNS_ABOVE = 20, HANDFUL = 9;
    private static final int DAYS_AHEAD = 60, DAYS_TO_SPRING = 20;
    private static final int MOST_BROUGHT = 999, MOST_WORTH = 300;
    private static final int MOST_TURNS = 6, EVEN_DUEL = 500, GAMBLER_MARK = 100;
    private static final int TWELFTHS = 12;
    private static final int MOST_LOTS = 20, LOT_FACTOR = 48271, LOT_MODULUS = 2147483647, LOT_SIDES = 8;

    private final int[][] rows = new int[ROWS][ROW_PLACES];
    private final int[] rowSizes = new int[ROWS];
    private final byte[][] texts = new byte[TEXTS][TEXT_PLACES];
    private final int[] textSizes = new int[TEXTS];

    private final Houses houses = new Houses();
    private final Story story = new Story();
    private final Story[] kept = new Story[KEPT_PLACES];
    private final Moment aside = new Moment();
    private final int[] needs = new int[MOST_HOUSES];

    private int told;
    private long toldUpper;
    private long toldLower = 1;
    private int latestFinding;
    private final int[] findingCounts = new int[FINDINGS + 1];

    public LuckJars() {
        Arrays.fill(rowSizes, MISSING);
        Arrays.fill(textSizes, MISSING);
        for (int k = 0; k < KEPT_PLACES; k++) {
            kept[k] = new Story();
            kept[k].deeds = MISSING;
        }
    }

    // ---- 1 rows, texts, places

    public int row(int r, int n) {
        if (!isRow(r) || n > ROW_PLACES) {
            return BAD;
        }
        if (n < 0) {
            return foundThat(SIZE);
        }
        Arrays.fill(rows[r], 0);
        rowSizes[r] = n;
        return n;
    }

    public int lay(int r, int i, int v) {
        int refusal = placeRefusal(r, i);
        if (refusal != 0) {
            return refusal;
        }
        told = rows[r][i];
        rows[r][i] = v;
        return 1;
    }

    public int at(int r, int i) {
        int refusal = placeRefusal(r, i);
        if (refusal != 0) {
            return refusal;
        }
        told = rows[r][i];
        return 1;
    }

    public int tear(int r) {
        int refusal = rowRefusal(r);
        if (refusal != 0) {
            return refusal;
        }
        rowSizes[r] = MISSING;
        return 1;
    }

    public int copy(int r, int i, int to, int j, int n) {
        if (!isRow(r) || !isRow(to)) {
            return BAD;
        }
        if (n < 0) {
            return foundThat(SIZE);
        }
        if (rowSizes[r] == MISSING || rowSizes[to] == MISSING) {
            return foundThat(NOTHING);
        }
        if (!reaches(rowSizes[r], i, n) || !reaches(rowSizes[to], j, n)) {
            return foundThat(BEYOND);
        }
        System.arraycopy(rows[r], i, rows[to], j, n);
        return 1;
    }

    public int mean(int r) {
        int refusal = rowRefusal(r);
        if (refusal != 0) {
            return refusal;
        }
        int size = rowSizes[r];
        if (size == 0) {
            return foundThat(NOUGHT);
        }
        long sum = 0;
        for (int i = 0; i < size; i++) {
            sum += rows[r][i];
        }
        told = (int) (sum / size);
        return 1;
    }

    public int text(int t, int n) {
        if (!isText(t) || n > TEXT_PLACES) {
            return BAD;
        }
        if (n < 0) {
            return foundThat(SIZE);
        }
        Arrays.fill(texts[t], (byte) BLANK);
        textSizes[t] = n;
        return n;
    }

    public int put(int t, int i, int v) {
        int refusal = textRefusal(t);
        if (refusal != 0) {
            return refusal;
        }
        if (i < 0 || i >= textSizes[t]) {
            return foundThat(BEYOND);
        }
        int was = texts[t][i];
        texts[t][i] = (byte) v;
        return PUT_BASE + was;
    }

    public int fault(int t) {
        int refusal = textRefusal(t);
        return refusal != 0 ? refusal : firstFault(texts[t], textSizes[t]);
    }

    public int place(int t) {
        int refusal = textRefusal(t);
        if (refusal != 0) {
            return refusal;
        }
        if (firstFault(texts[t], textSizes[t]) != NONE) {
            return STATE;
        }
        for (int k = 0; k < KEPT_PLACES; k++) {
            kept[k].deeds = MISSING;
        }
        settle(texts[t], textSizes[t]);
        return houses.size;
    }

    public int house(int i, int what) {
        if (!isHouse(i) || what < 0 || what >= HOUSE_TELLS) {
            return BAD;
        }
        told = ofHouse(i, what);
        return 1;
    }

    public int mark(int i, int kind) {
        if (!isHouse(i) || kind <= HOUSE || kind >= KINDS) {
            return BAD;
        }
        int own = houses.kind[i];
        if (!isA(own, kind)) {
            return foundThat(UNLIKE);
        }
        return markOf(own, kind, story.now().jar[i]);
    }

    public int worth(int i, int v) {
        if (!isHouse(i) || v < 0 || v > JAR_FULL) {
            return BAD;
        }
        return worthTo(houses.kind[i], v);
    }

    // ---- 2 deeds

    public int day() {
        if (houses.size == 0 || story.now().dayNumber >= LAST_DAY) {
            return STATE;
        }
        if (story.isFull()) {
            return FULL;
        }
        Moment next = story.next();
        next.passDays(houses, 1);
        return next.dayNumber;
    }

    public int spring() {
        if (houses.size == 0) {
            return STATE;
        }
        if (story.isFull()) {
            return FULL;
        }
        Moment next = story.next();
        int each = next.shareOut(houses);
        told = next.quay;
        return each;
    }

    public int lend(int i, int j, int v) {
        if (!isHouse(i) || !isHouse(j) || i == j || !isCup(v)) {
            return BAD;
        }
        if (story.now().jar[i] < v) {
            return STATE;
        }
        if (story.isFull()) {
            return FULL;
        }
        Moment next = story.next();
        next.pass(i, j, v);
        return next.jar[j];
    }

    public int leave(int i, int v) {
        if (!isHouse(i) || !isCup(v)) {
            return BAD;
        }
        if (story.now().jar[i] < v) {
            return STATE;
        }
        if (story.isFull()) {
            return FULL;
        }
        Moment next = story.next();
        next.toQuay(i, v);
        return next.quay;
    }

    public int take(int i, int v) {
        if (!isHouse(i) || !isCup(v)) {
            return BAD;
        }
        Moment now = story.now();
        if (now.quay < v || now.jar[i] + v > JAR_FULL) {
            return STATE;
        }
        if (story.isFull()) {
            return FULL;
        }
        Moment next = story.next();
        next.toQuay(i, -v);
        return next.jar[i];
    }

    public int undo(int n) {
        if (n < 0 || n > story.deeds) {
            return BAD;
        }
        int undone = story.deeds - n;
        story.deeds = n;
        return undone;
    }

    public int keep(int k) {
        if (!isKeeping(k)) {
            return BAD;
        }
        if (houses.size == 0) {
            return STATE;
        }
        kept[k].become(story);
        return story.deeds;
    }

    public int on(int k) {
        if (!isKeeping(k)) {
            return BAD;
        }
        if (kept[k].deeds == MISSING) {
            return foundThat(NOTHING);
        }
        story.become(kept[k]);
        return story.deeds;
    }

    // ---- 3 what there is, what comes

    public int works() {
        int set = story.now().worksOff(houses);
        told = Integer.bitCount(set);
        return set;
    }

    public int later(int i, int n) {
        if (!isHouse(i) || n < 0 || n > DAYS_AHEAD) {
            return BAD;
        }
        aside.become(story.now());
        aside.passDays(houses, n);
        int jar = aside.jar[i];
        aside.shareOut(houses);
        told = aside.jar[i];
        return jar;
    }

    public int when(int i) {
        if (!isHouse(i)) {
            return BAD;
        }
        int jar = story.now().jar[i];
        for (int days = 0; days <= DAYS_AHEAD; days++) {
            int then = houses.jarBehind(i, jar, days);
            if (houses.comesOff(i, then)) {
                told = worthTo(houses.kind[i], then);
                return days;
            }
        }
        return NONE;
    }

    // ---- 4 what to do

    public int lacks(int i) {
        if (!isHouse(i)) {
            return BAD;
        }
        int jar = story.now().jar[i];
        int more = houses.leastMore(i, jar);
        if (more != NONE) {
            told = worthTo(houses.kind[i], jar + more);
        }
        return more;
    }

    public int share() {
        if (houses.size == 0) {
            return STATE;
        }
        Moment now = story.now();
        for (int i = 0; i < houses.size; i++) {
            needs[i] = houses.leastMore(i, now.jar[i]);
        }
        int best = 0;
        int taken = 0;
        for (int set = 1; set < 1 << houses.size; set++) {
            int takes = needOf(set);
            if (takes != NONE && takes <= now.quay && Integer.bitCount(set) > Integer.bitCount(best)) {
                best = set;
                taken = takes;
            }
        }
        told = taken;
        return best;
    }

    public int best() {
        if (houses.size == 0) {
            return STATE;
        }
        int first = 0;
        int most = -1;
        for (int days = 0; days <= DAYS_TO_SPRING; days++) {
            aside.become(story.now());
            aside.passDays(houses, days);
            aside.shareOut(houses);
            int off = Integer.bitCount(aside.worksOff(houses));
            if (off > most) {
                most = off;
                first = days;
            }
        }
        told = most;
        return first;
    }

    public int lending(int v) {
        if (!isCup(v)) {
            return BAD;
        }
        if (houses.size == 0) {
            return STATE;
        }
        int most = Integer.bitCount(story.now().worksOff(houses));
        int pair = NONE;
        for (int i = 0; i < houses.size; i++) {
            for (int j = 0; j < houses.size; j++) {
                int off = worksByLending(i, j, v);
                if (off > most) {
                    most = off;
                    pair = 10 * i + j;
                }
            }
        }
        if (pair != NONE) {
            told = most;
        }
        return pair;
    }

    public int greedy(int v) {
        if (v < 0 || v > MOST_BROUGHT) {
            return BAD;
        }
        if (houses.size == 0) {
            return STATE;
        }
        int sets = 0;
        int least = NONE;
        for (int set = 0; set < 1 << houses.size; set++) {
            if (broughtWithGreedy(set) == v) {
                sets++;
                least = least == NONE ? set : least;
            }
        }
        return tellLeast(sets, least);
    }

    // ---- 5 who kept some back

    public int kinds(int i, int r) {
        int refusal = pairsRefusal(i, r);
        return refusal != 0 ? refusal : kindsByPairs(rows[r], rowSizes[r]);
    }

    public int test(int i, int r) {
        int refusal = pairsRefusal(i, r);
        if (refusal != 0) {
            return refusal;
        }
        int set = kindsByPairs(rows[r], rowSizes[r]);
        if (set == 0) {
            return NONE;
        }
        int least = KINDS + 1;
        int first = 0;
        for (int jar = 0; jar <= JAR_FULL; jar++) {
            int part = greatestPart(set, jar);
            if (part < least) {
                least = part;
                first = jar;
            }
        }
        told = least;
        return first;
    }

    public int jars(int i, int w) {
        if (!isHouse(i) || w < 0 || w > MOST_WORTH) {
            return BAD;
        }
        int many = 0;
        int least = NONE;
        for (int jar = 0; jar <= JAR_FULL; jar++) {
            if (worthTo(houses.kind[i], jar) == w) {
                many++;
                least = least == NONE ? jar : least;
            }
        }
        return tellLeast(many, least);
    }

    // ---- 6 by turns

    public int duel(int i, int j, int n) {
        if (!isHouse(i) || !isHouse(j) || i == j || n < 0 || n > MOST_TURNS) {
            return BAD;
        }
        Moment now = story.now();
        return EVEN_DUEL + lead(houses.kind[i], now.jar[i], houses.kind[j], now.jar[j], now.quay, n);
    }

    // ---- 7 chances, lots

    public int odds(int v, int p) {
        if (v < 0 || v > MOST_HOUSES || !isTwelfths(p)) {
            return BAD;
        }
        if (houses.size == 0) {
            return STATE;
        }
        long fitting = 0;
        long all = 0;
        for (int idle = 0; idle < 1 << houses.size; idle++) {
            long part = partOf(idle, p);
            all += part;
            if (worksWithIdle(idle) >= v) {
                fitting += part;
            }
        }
        return tellChance(fitting, all);
    }

    public int mid(int p) {
        if (!isTwelfths(p)) {
            return BAD;
        }
        if (houses.size == 0) {
            return STATE;
        }
        int parts = 0;
        for (int i = 0; i < houses.size; i++) {
            int jar = story.now().jar[i];
            if (houses.comesOff(i, jar)) {
                parts += p;
            }
            if (houses.comesOff(i, houses.jarBehind(i, jar, 1))) {
                parts += TWELFTHS - p;
            }
        }
        return tellChance(parts, TWELFTHS);
    }

    public int lots(int n, int seed) {
        if (n < 1 || n > MOST_LOTS || seed < 1 || seed >= LOT_MODULUS) {
            return BAD;
        }
        if (houses.size == 0) {
            return STATE;
        }
        if (story.deeds + n > MOST_DEEDS) {
            return FULL;
        }
        long lot = seed;
        for (int k = 0; k < n; k++) {
            lot = lot * LOT_FACTOR % LOT_MODULUS;
            doByLot(story.next(), (int) lot);
        }
        return story.now().quay;
    }

    // ---- 8 what is told

    public int asked() {
        return told;
    }

    public long upper() {
        return toldUpper;
    }

    public long lower() {
        return toldLower;
    }

    public int count(int what) {
        Moment now = story.now();
        switch (what) {
            case 0:
                return houses.size;
            case 1:
                return now.dayNumber;
            case 2:
                return story.deeds;
            case 3:
                return now.quay;
            case 4:
                return now.inJars(houses);
            case 5:
                return Integer.bitCount(now.worksOff(houses));
            case 6:
                return now.brought(houses);
            case 7:
                return thoseThere(rowSizes);
            case 8:
                return thoseThere(textSizes);
            case 9:
                return keptThere();
            case 10:
                return houses.ofKind(WIDOW);
            case 11:
                return houses.ofKind(GAMBLER);
            default:
                return BAD;
        }
    }

    public int finding() {
        return latestFinding;
    }

    public int findings(int f) {
        if (f < 1 || f > FINDINGS) {
            return BAD;
        }
        return findingCounts[f];
    }

    public long digest() {
        long h = 17;
        for (int what = 0; what < COUNTS; what++) {
            h = 31 * h + count(what);
        }
        for (int i = 0; i < houses.size; i++) {
            for (int what = 0; what < HOUSE_TELLS; what++) {
                h = 31 * h + ofHouse(i, what);
            }
        }
        for (int k = 0; k < KEPT_PLACES; k++) {
            h = 31 * h + kept[k].deeds;
        }
        return digestTexts(digestRows(h));
    }

    private long digestRows(long start) {
        long h = start;
        for (int r = 0; r < ROWS; r++) {
            h = 31 * h + rowSizes[r];
            for (int i = 0; i < rowSizes[r]; i++) {
                h = 31 * h + rows[r][i];
            }
        }
        return h;
    }

    private long digestTexts(long start) {
        long h = start;
        for (int t = 0; t < TEXTS; t++) {
            h = 31 * h + textSizes[t];
            for (int i = 0; i < textSizes[t]; i++) {
                h = 31 * h + texts[t][i];
            }
        }
        return h;
    }

    // ---- what is refused: 0 where nothing is

    private int foundThat(int finding) {
        latestFinding = finding;
        findingCounts[finding]++;
        return FINDING;
    }

    private int rowRefusal(int r) {
        if (!isRow(r)) {
            return BAD;
        }
        return rowSizes[r] == MISSING ? foundThat(NOTHING) : 0;
    }

    private int placeRefusal(int r, int i) {
        int refusal = rowRefusal(r);
        if (refusal != 0) {
            return refusal;
        }
        return i < 0 || i >= rowSizes[r] ? foundThat(BEYOND) : 0;
    }

    private int textRefusal(int t) {
        if (!isText(t)) {
            return BAD;
        }
        return textSizes[t] == MISSING ? foundThat(NOTHING) : 0;
    }

    private int pairsRefusal(int i, int r) {
        if (!isHouse(i)) {
            return BAD;
        }
        int refusal = rowRefusal(r);
        if (refusal != 0) {
            return refusal;
        }
        if (rowSizes[r] % 2 != 0) {
            return foundThat(SIZE);
        }
        for (int k = 0; k < rowSizes[r]; k++) {
            int most = k % 2 == 0 ? JAR_FULL : MOST_WORTH;
            if (rows[r][k] < 0 || rows[r][k] > most) {
                return foundThat(UNLIKE);
            }
        }
        return 0;
    }

    private static boolean isRow(int r) {
        return r >= 0 && r < ROWS;
    }

    private static boolean isText(int t) {
        return t >= 0 && t < TEXTS;
    }

    private boolean isHouse(int i) {
        return i >= 0 && i < houses.size;
    }

    private static boolean isCup(int v) {
        return v >= 1 && v <= JAR_FULL;
    }

    private static boolean isKeeping(int k) {
        return k >= 0 && k < KEPT_PLACES;
    }

    private static boolean isTwelfths(int p) {
        return p >= 0 && p <= TWELFTHS;
    }

    // i is held against size - n: i + n could be too great for an int.
    private static boolean reaches(int size, int i, int n) {
        return i >= 0 && i <= size - n;
    }

    // ---- what is told

    private int tellLeast(int many, int least) {
        if (many == 0) {
            return NONE;
        }
        told = least;
        return many;
    }

    private int tellChance(long up, long low) {
        long common = greatestCommon(up, low);
        if (common == 0) {
            return NONE;
        }
        toldUpper = up / common;
        toldLower = low / common;
        return 1;
    }

    // Euclid needs fewer than 100 steps for any two longs.
    private static long greatestCommon(long a, long b) {
        long great = a;
        long small = b;
        for (int step = 0; step < 100 && small != 0; step++) {
            long rest = great % small;
            great = small;
            small = rest;
        }
        return great;
    }

    private static int thoseThere(int[] sizes) {
        int there = 0;
        for (int k = 0; k < sizes.length; k++) {
            if (sizes[k] != MISSING) {
                there++;
            }
        }
        return there;
    }

    private int keptThere() {
        int there = 0;
        for (int k = 0; k < KEPT_PLACES; k++) {
            if (kept[k].deeds != MISSING) {
                there++;
            }
        }
        return there;
    }

    private int ofHouse(int i, int what) {
        Moment now = story.now();
        switch (what) {
            case 0:
                return houses.kind[i];
            case 1:
                return houses.finds[i];
            case 2:
                return houses.hard[i];
            case 3:
                return now.jar[i];
            case 4:
                return now.bringsOf(houses, i);
            case 5:
                return worthTo(houses.kind[i], now.jar[i]);
            default:
                return houses.comesOff(i, now.jar[i]) ? 1 : 0;
        }
    }

    // ---- the small language

    private static int firstFault(byte[] signs, int size) {
        int found = 0;
        int i = 0;
        while (i < size) {
            if (signs[i] == BLANK) {
                i++;
                continue;
            }
            if (found == MOST_HOUSES || kindByLetter(signs[i]) == NONE) {
                return i;
            }
            for (int k = 1; k < HOUSE_SIGNS; k++) {
                if (i + k >= size || !isFigure(signs[i + k])) {
                    return i + k;
                }
            }
            found++;
            i += HOUSE_SIGNS;
        }
        return found < LEAST_HOUSES ? size : NONE;
    }

    // The text is without a fault: each letter in it begins a house.
    private void settle(byte[] signs, int size) {
        Moment start = story.startAnew();
        int found = 0;
        for (int i = 0; i + HOUSE_SIGNS <= size && found < MOST_HOUSES; i++) {
            int kind = kindByLetter(signs[i]);
            if (kind != NONE) {
                houses.kind[found] = kind;
                houses.finds[found] = figure(signs[i + 1]);
                houses.hard[found] = figure(signs[i + 2]);
                start.jar[found] = 10 * figure(signs[i + 3]) + figure(signs[i + 4]);
                found++;
            }
        }
        houses.size = found;
    }

    private static int kindByLetter(byte sign) {
        for (int kind = 0; kind < KINDS; kind++) {
            if (LETTERS[kind] == sign) {
                return kind;
            }
        }
        return NONE;
    }

    private static boolean isFigure(byte sign) {
        return sign >= '0' && sign <= '9';
    }

    private static int figure(byte sign) {
        return sign - '0';
    }

    // ---- kinds

    private static boolean isA(int own, int kind) {
        return own == kind || own == OLD && kind == WIDOW || own == CAT && kind == GAMBLER;
    }

    private static int worthTo(int kind, int jar) {
        switch (kind) {
            case WIDOW:
                return jar + WIDOW_MORE;
            case GAMBLER:
                return 2 * jar;
            case GREEDY:
                return jar > TURNS_ABOVE ? 0 : jar;
            case OLD:
                return 2 * (jar + WIDOW_MORE);
            case CAT:
                return Math.max(0, 2 * jar - CAT_LESS);
            default:
                return jar;
        }
    }

    private static int markOf(int own, int kind, int jar) {
        int worth = worthTo(own, jar);
        switch (kind) {
            case WIDOW:
                return worth - worthTo(HOUSE, jar);
            case GAMBLER:
                return GAMBLER_MARK + worth - worthTo(HOUSE, jar);
            case GREEDY:
                return jar - broughtBy(GREEDY, jar, 0);
            case OLD:
                return worth - worthTo(WIDOW, jar);
            default:
                return worthTo(GAMBLER, jar) - worth;
        }
    }

    private static int broughtBy(int kind, int jar, int dayNumber) {
        switch (kind) {
            case WIDOW:
                return jar / 2;
            case GREEDY:
                return Math.max(0, jar - KEPT_BACK);
            case OLD:
                return 0;
            case CAT:
                return dayNumber % 2 == 0 ? jar : 0;
            default:
                return jar;
        }
    }

    private static int kindsByPairs(int[] pairs, int size) {
        int set = 0;
        for (int kind = 0; kind < KINDS; kind++) {
            boolean fits = true;
            for (int k = 0; k + 1 < size; k += 2) {
                fits = fits && worthTo(kind, pairs[k]) == pairs[k + 1];
            }
            if (fits) {
                set |= 1 << kind;
            }
        }
        return set;
    }

    private static int greatestPart(int set, int jar) {
        int greatest = 0;
        for (int kind = 0; kind < KINDS; kind++) {
            if (has(set, kind)) {
                greatest = Math.max(greatest, partAlike(set, jar, worthTo(kind, jar)));
            }
        }
        return greatest;
    }

    private static int partAlike(int set, int jar, int worth) {
        int alike = 0;
        for (int kind = 0; kind < KINDS; kind++) {
            if (has(set, kind) && worthTo(kind, jar) == worth) {
                alike++;
            }
        }
        return alike;
    }

    private static boolean has(int set, int bit) {
        return (set >> bit & 1) != 0;
    }

    // ---- what would be, aside

    // What the told works lack together (by needs); NONE if one of them can't come off.
    private int needOf(int set) {
        int sum = 0;
        for (int i = 0; i < houses.size; i++) {
            if (has(set, i)) {
                if (needs[i] == NONE) {
                    return NONE;
                }
                sum += needs[i];
            }
        }
        return sum;
    }

    private int worksByLending(int i, int j, int v) {
        Moment now = story.now();
        if (i == j || now.jar[i] < v) {
            return NONE;
        }
        aside.become(now);
        aside.pass(i, j, v);
        return Integer.bitCount(aside.worksOff(houses));
    }

    private int broughtWithGreedy(int set) {
        Moment now = story.now();
        int sum = 0;
        for (int i = 0; i < houses.size; i++) {
            int kind = has(set, i) ? GREEDY : houses.kind[i];
            sum += broughtBy(kind, now.jar[i], now.dayNumber);
        }
        return sum;
    }

    private int worksWithIdle(int idle) {
        Moment now = story.now();
        int off = 0;
        for (int i = 0; i < houses.size; i++) {
            int days = has(idle, i) ? 0 : 1;
            if (houses.comesOff(i, houses.jarBehind(i, now.jar[i], days))) {
                off++;
            }
        }
        return off;
    }

    // Of twelfths to the power of how many houses there are: how many fall to just these being idle.
    private long partOf(int idle, int p) {
        long part = 1;
        for (int i = 0; i < houses.size; i++) {
            part *= has(idle, i) ? p : TWELFTHS - p;
        }
        return part;
    }

    // How much more the jar of the one whose turn it is will be worth than the other one's.
    private static int lead(int kind, int jar, int otherKind, int otherJar, int quay, int turns) {
        if (turns <= 0) {
            return worthTo(kind, jar) - worthTo(otherKind, otherJar);
        }
        int takes = takenByTurn(jar, quay);
        int leaves = leftByTurn(jar);
        int most = -lead(otherKind, otherJar, kind, jar, quay, turns - 1);
        most = Math.max(most, -lead(otherKind, otherJar, kind, jar + takes, quay - takes, turns - 1));
        return Math.max(most, -lead(otherKind, otherJar, kind, jar - leaves, quay + leaves, turns - 1));
    }

    private static int takenByTurn(int jar, int quay) {
        return Math.min(HANDFUL, Math.min(quay, JAR_FULL - jar));
    }

    private static int leftByTurn(int jar) {
        return Math.min(HANDFUL, jar);
    }

    private void doByLot(Moment next, int lot) {
        if (houses.size == 0) {
            return;
        }
        int i = lot / LOT_SIDES % houses.size;
        switch (lot % LOT_SIDES) {
            case 0:
                next.shareOut(houses);
                break;
            case 1:
                next.toQuay(i, leftByTurn(next.jar[i]));
                break;
            case 2:
                next.toQuay(i, -takenByTurn(next.jar[i], next.quay));
                break;
            default:
                if (next.dayNumber < LAST_DAY) {
                    next.passDays(houses, 1);
                }
                break;
        }
    }

    /** What the houses of a place are, whatever is done there. */
    private static final class Houses {
        final int[] kind = new int[MOST_HOUSES];
        final int[] finds = new int[MOST_HOUSES];
        final int[] hard = new int[MOST_HOUSES];
        int size;

        boolean comesOff(int i, int jar) {
            return worthTo(kind[i], jar) >= WORTH_FOR_HARD * hard[i];
        }

        int jarBehind(int i, int jar, int days) {
            return Math.min(JAR_FULL, jar + days * finds[i]);
        }

        int leastMore(int i, int jar) {
            for (int then = jar; then <= JAR_FULL; then++) {
                if (comesOff(i, then)) {
                    return then - jar;
                }
            }
            return NONE;
        }

        int ofKind(int wanted) {
            int many = 0;
            for (int i = 0; i < size; i++) {
                if (isA(kind[i], wanted)) {
                    many++;
                }
            }
            return many;
        }
    }

    /** How a place stands at one time. */
    private static final class Moment {
        final int[] jar = new int[MOST_HOUSES];
        int dayNumber;
        int quay;

        void become(Moment other) {
            System.arraycopy(other.jar, 0, jar, 0, MOST_HOUSES);
            dayNumber = other.dayNumber;
            quay = other.quay;
        }

        void passDays(Houses houses, int days) {
            for (int i = 0; i < houses.size; i++) {
                jar[i] = houses.jarBehind(i, jar[i], days);
            }
            dayNumber += days;
        }

        int shareOut(Houses houses) {
            if (houses.size == 0) {
                return 0;
            }
            int putIn = quay + brought(houses);
            int each = putIn / houses.size;
            quay = putIn % houses.size;
            for (int i = 0; i < houses.size; i++) {
                jar[i] -= bringsOf(houses, i);
                receive(i, each);
            }
            return each;
        }

        void pass(int from, int to, int cups) {
            jar[from] -= cups;
            receive(to, cups);
        }

        void receive(int i, int cups) {
            int held = Math.min(cups, JAR_FULL - jar[i]);
            jar[i] += held;
            quay += cups - held;
        }

        // Fewer than none: they are taken from there.
        void toQuay(int i, int cups) {
            jar[i] -= cups;
            quay += cups;
        }

        int bringsOf(Houses houses, int i) {
            return broughtBy(houses.kind[i], jar[i], dayNumber);
        }

        int brought(Houses houses) {
            int sum = 0;
            for (int i = 0; i < houses.size; i++) {
                sum += bringsOf(houses, i);
            }
            return sum;
        }

        int inJars(Houses houses) {
            int sum = 0;
            for (int i = 0; i < houses.size; i++) {
                sum += jar[i];
            }
            return sum;
        }

        int worksOff(Houses houses) {
            int set = 0;
            for (int i = 0; i < houses.size; i++) {
                if (houses.comesOff(i, jar[i])) {
                    set |= 1 << i;
                }
            }
            return set;
        }
    }

    /** How a place stood ahead of each deed done there, and stands now: so a deed is undone by going back. */
    private static final class Story {
        final Moment[] moments = new Moment[MOST_DEEDS + 1];
        int deeds;

        Story() {
            for (int k = 0; k <= MOST_DEEDS; k++) {
                moments[k] = new Moment();
            }
        }

        Moment now() {
            return moments[deeds];
        }

        boolean isFull() {
            return deeds >= MOST_DEEDS;
        }

        // The caller has looked that it isn't full.
        Moment next() {
            moments[deeds + 1].become(moments[deeds]);
            deeds++;
            return moments[deeds];
        }

        // No deed is ever done to the first moment itself: its day is 0, and nothing is on the quay.
        Moment startAnew() {
            deeds = 0;
            return moments[0];
        }

        void become(Story other) {
            for (int k = 0; k <= other.deeds; k++) {
                moments[k].become(other.moments[k]);
            }
            deeds = other.deeds;
        }
    }
}
