/** A text of at most 64 letters, each with a style, and a flag that stands between them. */
public final class StyledText {
    public static final int BAD_ARG = -1;
    public static final int FULL = -2;
    public static final int NONE = -4;

    private static final int CAPACITY = 64;
    private static final int LETTER_COUNT = 26;
    private static final int STYLE_COUNT = 64;

    private static final int MARKS = 7;
    private static final int MASK_SIZE = 8;
    private static final int MASK_COUNT = 16;
    // In a style the size takes three bits, in a mask only one.
    private static final int SIZE_BITS = 56;

    private final int[] letters = new int[CAPACITY];
    private final int[] styles = new int[CAPACITY];
    // A stretch that is moved or copied waits here, since making room for it shifts its own places.
    private final int[] heldLetters = new int[CAPACITY];
    private final int[] heldStyles = new int[CAPACITY];
    private int count;
    private int flagPlace;

    public StyledText() {
        count = 0;
        flagPlace = 0;
    }

    public int type(int p, int c) {
        if (!isLetter(c) || !isGap(p)) {
            return BAD_ARG;
        }
        if (!hasRoomFor(1)) {
            return FULL;
        }
        int s = styleForTyping(p);
        makeRoom(p, 1);
        letters[p] = c;
        styles[p] = s;
        return count;
    }

    public int put(int p, int c, int k, int s) {
        if (!isLetter(c) || !isGap(p) || k < 0 || k > CAPACITY || !isStyle(s)) {
            return BAD_ARG;
        }
        if (!hasRoomFor(k)) {
            return FULL;
        }
        makeRoom(p, k);
        for (int q = p; q < p + k; q++) {
            letters[q] = c;
            styles[q] = s;
        }
        return count;
    }

    public int remove(int i, int j) {
        if (!isStretch(i, j)) {
            return BAD_ARG;
        }
        takeOut(i, j);
        return count;
    }

    public int move(int i, int j, int p) {
        if (!isStretch(i, j)) {
            return BAD_ARG;
        }
        if (p < 0 || p > count - (j - i)) {
            return BAD_ARG;
        }
        hold(i, j);
        takeOut(i, j);
        putHeld(p, j - i);
        return 0;
    }

    public int copy(int i, int j, int p) {
        if (!isStretch(i, j) || !isGap(p)) {
            return BAD_ARG;
        }
        if (!hasRoomFor(j - i)) {
            return FULL;
        }
        hold(i, j);
        putHeld(p, j - i);
        return count;
    }

    public int style(int i, int j, int mask, int s) {
        if (!isStretch(i, j) || mask < 0 || mask >= MASK_COUNT || !isStyle(s)) {
            return BAD_ARG;
        }
        int bits = styleBits(mask);
        int changed = 0;
        for (int q = i; q < j; q++) {
            int after = (styles[q] & ~bits) | (s & bits);
            if (after != styles[q]) {
                styles[q] = after;
                changed++;
            }
        }
        return changed;
    }

    public int toggle(int i, int j, int bit) {
        if (!isStretch(i, j) || !isMark(bit)) {
            return BAD_ARG;
        }
        // An empty stretch has the part throughout, so it loses it and answers 0 like any other.
        boolean give = !allHave(i, j, bit);
        for (int q = i; q < j; q++) {
            styles[q] = give ? styles[q] | bit : styles[q] & ~bit;
        }
        return give ? 1 : 0;
    }

    public int replace(int c, int d) {
        if (!isLetter(c) || !isLetter(d)) {
            return BAD_ARG;
        }
        int found = 0;
        for (int q = 0; q < count; q++) {
            if (letters[q] == c) {
                letters[q] = d;
                found++;
            }
        }
        return found;
    }

    public int length() {
        return count;
    }

    public int letter(int p) {
        return isPlace(p) ? letters[p] : NONE;
    }

    public int styleAt(int p) {
        return isPlace(p) ? styles[p] : NONE;
    }

    public int runs() {
        return runsBegunBefore(count);
    }

    public int runBegin(int r) {
        return placeOfRun(r);
    }

    public int runStyle(int r) {
        int begin = placeOfRun(r);
        return isPlace(begin) ? styles[begin] : NONE;
    }

    public int runOf(int p) {
        return isPlace(p) ? runsBegunBefore(p + 1) - 1 : NONE;
    }

    public int having(int bits) {
        if (bits < 0 || bits > MARKS) {
            return BAD_ARG;
        }
        int found = 0;
        for (int q = 0; q < count; q++) {
            if ((styles[q] & bits) == bits) {
                found++;
            }
        }
        return found;
    }

    public int setFlag(int g) {
        if (!isGap(g)) {
            return BAD_ARG;
        }
        int before = flagPlace;
        flagPlace = g;
        return before;
    }

    public int flag() {
        return flagPlace;
    }

    public int digest() {
        int sum = 0;
        for (int q = 0; q < count; q++) {
            sum += (q + 1) * (STYLE_COUNT * letters[q] + styles[q]);
        }
        return sum;
    }

    private boolean isLetter(int c) {
        return c >= 0 && c < LETTER_COUNT;
    }

    private boolean isStyle(int s) {
        return s >= 0 && s < STYLE_COUNT;
    }

    private boolean isMark(int bit) {
        return bit == 1 || bit == 2 || bit == 4;
    }

    private boolean isPlace(int p) {
        return p >= 0 && p < count;
    }

    private boolean isGap(int p) {
        return p >= 0 && p <= count;
    }

    private boolean isStretch(int i, int j) {
        return i >= 0 && i <= j && j <= count;
    }

    private boolean hasRoomFor(int m) {
        return m <= CAPACITY - count;
    }

    private int styleForTyping(int p) {
        if (count == 0) {
            return 0;
        }
        return p == 0 ? styles[0] : styles[p - 1];
    }

    private int styleBits(int mask) {
        int marks = mask & MARKS;
        return (mask & MASK_SIZE) == 0 ? marks : marks | SIZE_BITS;
    }

    private boolean allHave(int i, int j, int bit) {
        for (int q = i; q < j; q++) {
            if ((styles[q] & bit) == 0) {
                return false;
            }
        }
        return true;
    }

    private boolean beginsRun(int q) {
        return q == 0 || styles[q] != styles[q - 1];
    }

    private int runsBegunBefore(int end) {
        int begun = 0;
        for (int q = 0; q < end; q++) {
            if (beginsRun(q)) {
                begun++;
            }
        }
        return begun;
    }

    private int placeOfRun(int r) {
        int begun = 0;
        for (int q = 0; q < count; q++) {
            if (beginsRun(q)) {
                if (begun == r) {
                    return q;
                }
                begun++;
            }
        }
        return NONE;
    }

    private void makeRoom(int p, int m) {
        // From the right, so that no character is written over before it has moved.
        for (int q = count - 1; q >= p; q--) {
            letters[q + m] = letters[q];
            styles[q + m] = styles[q];
        }
        count += m;
        if (p < flagPlace) {
            flagPlace += m;
        }
    }

    private void takeOut(int i, int j) {
        int m = j - i;
        for (int q = j; q < count; q++) {
            letters[q - m] = letters[q];
            styles[q - m] = styles[q];
        }
        count -= m;
        if (flagPlace >= j) {
            flagPlace -= m;
        } else if (flagPlace > i) {
            flagPlace = i;
        }
    }

    private void hold(int i, int j) {
        for (int q = i; q < j; q++) {
            heldLetters[q - i] = letters[q];
            heldStyles[q - i] = styles[q];
        }
    }

    private void putHeld(int p, int m) {
        makeRoom(p, m);
        for (int q = 0; q < m; q++) {
            letters[p + q] = heldLetters[q];
            styles[p + q] = heldStyles[q];
        }
    }
}
