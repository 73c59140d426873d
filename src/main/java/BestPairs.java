/** Finds the best pairs of entries of two lists that agree in a key. */
public final class BestPairs {
    public static final int NONE = -1;
    public static final int FULL = -2;

    private static final int LISTS = 2;
    private static final int LIST_SIZE = 12;
    private static final int KEYS = 8;
    private static final int MAX_SCORE = 1000;
    private static final int MAX_WEIGHT = 9;
    private static final int PAIR_BASE = 16;

    // Both lists share these arrays, list 1 behind list 0, because arrays of
    // arrays are not allowed; slotOf tells where an entry is.
    private final boolean[] used = new boolean[LISTS * LIST_SIZE];
    private final int[] keys = new int[LISTS * LIST_SIZE];
    private final int[] scores = new int[LISTS * LIST_SIZE];
    private final int[] weights = new int[LISTS];

    // The ranking is a total order, so the number of passed pairs alone says
    // where the cursor stands.
    private int cursor;

    public BestPairs() {
        weights[0] = 1;
        weights[1] = 1;
        cursor = 0;
    }

    public int enter(int list, int key, int score) {
        if (!isList(list) || !isKey(key) || !isScore(score)) {
            return NONE;
        }
        int i = leastFree(list);
        if (i == NONE) {
            return FULL;
        }
        int slot = slotOf(list, i);
        used[slot] = true;
        keys[slot] = key;
        scores[slot] = score;
        cursor = 0;
        return i;
    }

    public boolean remove(int list, int i) {
        if (!isEntry(list, i)) {
            return false;
        }
        used[slotOf(list, i)] = false;
        cursor = 0;
        return true;
    }

    public boolean rescore(int list, int i, int score) {
        if (!isEntry(list, i) || !isScore(score)) {
            return false;
        }
        scores[slotOf(list, i)] = score;
        cursor = 0;
        return true;
    }

    public boolean weigh(int list, int w) {
        if (!isList(list) || w < 0 || w > MAX_WEIGHT) {
            return false;
        }
        weights[list] = w;
        cursor = 0;
        return true;
    }

    public int entries(int list) {
        int bits = 0;
        for (int i = 0; i < LIST_SIZE; i++) {
            if (isEntry(list, i)) {
                bits |= 1 << i;
            }
        }
        return bits;
    }

    public int score(int list, int i) {
        if (!isEntry(list, i)) {
            return NONE;
        }
        return scores[slotOf(list, i)];
    }

    public int next() {
        int pair = pairAt(cursor);
        if (pair != NONE) {
            cursor++;
        }
        return pair;
    }

    public int passed() {
        return cursor;
    }

    public int lastValue() {
        int pair = pairAt(cursor - 1);
        if (pair == NONE) {
            return NONE;
        }
        return valueOf(pair / PAIR_BASE, pair % PAIR_BASE);
    }

    public void rewind() {
        cursor = 0;
    }

    public int pairAt(int k) {
        for (int l = 0; l < LIST_SIZE; l++) {
            for (int r = 0; r < LIST_SIZE; r++) {
                if (isPair(l, r) && placeOf(l, r) == k) {
                    return PAIR_BASE * l + r;
                }
            }
        }
        return NONE;
    }

    public int pairs() {
        int count = 0;
        for (int l = 0; l < LIST_SIZE; l++) {
            for (int r = 0; r < LIST_SIZE; r++) {
                if (isPair(l, r)) {
                    count++;
                }
            }
        }
        return count;
    }

    public int atLeast(int v) {
        int count = 0;
        for (int l = 0; l < LIST_SIZE; l++) {
            for (int r = 0; r < LIST_SIZE; r++) {
                if (isPair(l, r) && valueOf(l, r) >= v) {
                    count++;
                }
            }
        }
        return count;
    }

    public int bestPlace(int list, int i) {
        if (!isEntry(list, i)) {
            return NONE;
        }
        int best = NONE;
        for (int other = 0; other < LIST_SIZE; other++) {
            int l = list == 0 ? i : other;
            int r = list == 0 ? other : i;
            if (isPair(l, r)) {
                int place = placeOf(l, r);
                if (best == NONE || place < best) {
                    best = place;
                }
            }
        }
        return best;
    }

    private static boolean isList(int list) {
        return list >= 0 && list < LISTS;
    }

    private static boolean isKey(int key) {
        return key >= 0 && key < KEYS;
    }

    private static boolean isScore(int score) {
        return score >= 0 && score <= MAX_SCORE;
    }

    private static int slotOf(int list, int i) {
        return list * LIST_SIZE + i;
    }

    private boolean isEntry(int list, int i) {
        return isList(list) && i >= 0 && i < LIST_SIZE && used[slotOf(list, i)];
    }

    private int leastFree(int list) {
        for (int i = 0; i < LIST_SIZE; i++) {
            if (!isEntry(list, i)) {
                return i;
            }
        }
        return NONE;
    }

    // From here on l and r are 0 .. 11: the callers' loops or isEntry see to it.
    private boolean isPair(int l, int r) {
        int left = slotOf(0, l);
        int right = slotOf(1, r);
        return used[left] && used[right] && keys[left] == keys[right];
    }

    private int valueOf(int l, int r) {
        int left = slotOf(0, l);
        int right = slotOf(1, r);
        return weights[0] * scores[left] + weights[1] * scores[right];
    }

    /** The place of a pair is the number of pairs that go before it. */
    private int placeOf(int l, int r) {
        int place = 0;
        for (int otherL = 0; otherL < LIST_SIZE; otherL++) {
            for (int otherR = 0; otherR < LIST_SIZE; otherR++) {
                if (isPair(otherL, otherR) && goesBefore(otherL, otherR, l, r)) {
                    place++;
                }
            }
        }
        return place;
    }

    private boolean goesBefore(int l, int r, int otherL, int otherR) {
        int value = valueOf(l, r);
        int otherValue = valueOf(otherL, otherR);
        if (value != otherValue) {
            return value > otherValue;
        }
        if (l != otherL) {
            return l < otherL;
        }
        return r < otherR;
    }
}
