/**
 * A profile of four columns, words that are laid along it, and the sums and the best of all ways
 * to do so.
 *
 * <p>A point of a way is told by i, the letters read so far, j, the columns done so far, and p, the
 * kind of the step before it. Every table has one entry for each point (see pointAt).
 */
public final class ProfileHmm {
    public static final int BAD_ARG = -1;
    public static final int FULL = -2;
    public static final int NONE = -4;

    private static final int MATCH = 0;
    private static final int INSERT = 1;
    private static final int DELETE = 2;
    private static final int KINDS = 3;

    private static final int MOST_COLUMNS = 4;
    private static final int MOST_LETTERS = 7;
    private static final int MOST_STEPS = MOST_COLUMNS + MOST_LETTERS;
    private static final int ALPHABET = 4;
    private static final int MOST_VALUE = 9;

    /** One letter more than a word may have, because next() looks at a word with one appended. */
    private static final int WORD_ROOM = MOST_LETTERS + 1;
    private static final int POINTS_IN_ROW = (MOST_COLUMNS + 1) * KINDS;
    private static final int POINTS = (WORD_ROOM + 1) * POINTS_IN_ROW;

    private final int columnCount;
    private int letterCount;

    private final int[] word = new int[WORD_ROOM];
    private final int[] likings = new int[(MOST_COLUMNS + 1) * ALPHABET];
    private final int[] passages = new int[KINDS * KINDS];

    /** Of all beginnings that lead to a point, the sum of the weights. */
    private final long[] weightBefore = new long[POINTS];
    /** Of all endings that go on from a point, the sum of the weights. */
    private final long[] weightAfter = new long[POINTS];
    /** The number of those endings. */
    private final int[] endings = new int[POINTS];
    /** Their greatest score, the first step of the first that has it, and how many have it. */
    private final int[] greatest = new int[POINTS];
    private final int[] firstKind = new int[POINTS];
    private final int[] greatestCount = new int[POINTS];
    /** Their least score. */
    private final int[] least = new int[POINTS];
    /** The greatest score of an ending of r steps, or NONE, with one layer of points for each r. */
    private final int[] greatestOf = new int[(MOST_STEPS + 1) * POINTS];

    public ProfileHmm(int columns) {
        columnCount = columns < 1 ? 1 : columns > MOST_COLUMNS ? MOST_COLUMNS : columns;
        letterCount = 0;
        for (int k = 0; k < (MOST_COLUMNS + 1) * ALPHABET; k++) {
            likings[k] = 1;
        }
        for (int k = 0; k < KINDS * KINDS; k++) {
            passages[k] = 1;
        }
    }

    public int columns() {
        return columnCount;
    }

    public int like(int j, int a, int x) {
        if (!isColumn(j) || !isLetter(a) || !isValue(x)) {
            return BAD_ARG;
        }
        int was = likings[j * ALPHABET + a];
        likings[j * ALPHABET + a] = x;
        return was;
    }

    public int pass(int p, int q, int x) {
        if (!isKind(p) || !isKind(q) || !isValue(x)) {
            return BAD_ARG;
        }
        int was = passages[p * KINDS + q];
        passages[p * KINDS + q] = x;
        return was;
    }

    public int letter(int a) {
        if (!isLetter(a)) {
            return BAD_ARG;
        }
        if (letterCount >= MOST_LETTERS) {
            return FULL;
        }
        word[letterCount] = a;
        letterCount++;
        return letterCount;
    }

    public void clear() {
        letterCount = 0;
    }

    public int length() {
        return letterCount;
    }

    public long sum() {
        return sumOfFirst(letterCount);
    }

    public long matched(int i, int j) {
        if (!isPlace(i) || !isColumn(j)) {
            return 0;
        }
        fillWeightBefore();
        fillWeightAfter(letterCount);
        return weightThrough(MATCH, i, j - 1);
    }

    public long deleted(int j) {
        if (!isColumn(j)) {
            return 0;
        }
        fillWeightBefore();
        fillWeightAfter(letterCount);
        long total = 0;
        for (int i = 0; i <= letterCount; i++) {
            total += weightThrough(DELETE, i, j - 1);
        }
        return total;
    }

    public long inserted(int i) {
        if (!isPlace(i)) {
            return 0;
        }
        fillWeightBefore();
        fillWeightAfter(letterCount);
        long total = 0;
        for (int j = 0; j <= columnCount; j++) {
            total += weightThrough(INSERT, i, j);
        }
        return total;
    }

    public int ways() {
        for (int i = letterCount; i >= 0; i--) {
            for (int j = columnCount; j >= 0; j--) {
                for (int p = 0; p < KINDS; p++) {
                    endings[pointAt(i, j, p)] = endingsFrom(i, j);
                }
            }
        }
        return endings[pointAt(0, 0, MATCH)];
    }

    public int best() {
        fillGreatest();
        return greatest[pointAt(0, 0, MATCH)];
    }

    public int bestStep(int s) {
        if (s < 0 || s >= MOST_STEPS) {
            return NONE;
        }
        fillGreatest();
        int i = 0;
        int j = 0;
        int kind = MATCH;
        for (int step = 0; step <= s; step++) {
            if (isEnd(i, j, letterCount)) {
                return NONE;
            }
            kind = firstKind[pointAt(i, j, kind)];
            i += lettersOf(kind);
            j += columnsOf(kind);
        }
        return kind;
    }

    public int bestOf(int s) {
        if (s < 0 || s > MOST_STEPS) {
            return NONE;
        }
        for (int r = 0; r <= s; r++) {
            fillGreatestOf(r);
        }
        return greatestOf[s * POINTS + pointAt(0, 0, MATCH)];
    }

    public int ties() {
        fillGreatest();
        return greatestCount[pointAt(0, 0, MATCH)];
    }

    public int worst() {
        for (int i = letterCount; i >= 0; i--) {
            for (int j = columnCount; j >= 0; j--) {
                for (int p = 0; p < KINDS; p++) {
                    least[pointAt(i, j, p)] = leastFrom(i, j, p);
                }
            }
        }
        return least[pointAt(0, 0, MATCH)];
    }

    public long next() {
        long total = 0;
        for (int a = 0; a < ALPHABET; a++) {
            // Only places below letterCount belong to the word, so this one is free for a trial.
            word[letterCount] = a;
            total += sumOfFirst(letterCount + 1);
        }
        return total;
    }

    private boolean isColumn(int j) {
        return j >= 1 && j <= columnCount;
    }

    private boolean isPlace(int i) {
        return i >= 0 && i < letterCount;
    }

    private boolean isLetter(int a) {
        return a >= 0 && a < ALPHABET;
    }

    private boolean isKind(int p) {
        return p >= 0 && p < KINDS;
    }

    private boolean isValue(int x) {
        return x >= 0 && x <= MOST_VALUE;
    }

    private int pointAt(int i, int j, int p) {
        return i * POINTS_IN_ROW + j * KINDS + p;
    }

    private int lettersOf(int kind) {
        return kind == DELETE ? 0 : 1;
    }

    private int columnsOf(int kind) {
        return kind == INSERT ? 0 : 1;
    }

    /** The first letters of the word are the whole of it here: next() asks for one more than n. */
    private boolean isEnd(int i, int j, int letters) {
        return i == letters && j == columnCount;
    }

    private boolean canStep(int kind, int i, int j, int letters) {
        return i + lettersOf(kind) <= letters && j + columnsOf(kind) <= columnCount;
    }

    private int pointAfter(int kind, int i, int j) {
        int lettersRead = i + lettersOf(kind);
        int columnsDone = j + columnsOf(kind);
        return pointAt(lettersRead, columnsDone, kind);
    }

    /** The step goes on from i letters and j columns: a match there is at column j + 1. */
    private int likingAt(int i, int j) {
        return likings[(j + 1) * ALPHABET + word[i]];
    }

    private int factorOf(int p, int kind, int i, int j) {
        int passage = passages[p * KINDS + kind];
        return kind == MATCH ? passage * likingAt(i, j) : passage;
    }

    private int scoreOf(int p, int kind, int i, int j) {
        int passage = passages[p * KINDS + kind];
        return kind == MATCH ? passage + likingAt(i, j) : passage;
    }

    private long sumOfFirst(int letters) {
        fillWeightAfter(letters);
        return weightAfter[pointAt(0, 0, MATCH)];
    }

    private void fillWeightAfter(int letters) {
        for (int i = letters; i >= 0; i--) {
            for (int j = columnCount; j >= 0; j--) {
                for (int p = 0; p < KINDS; p++) {
                    weightAfter[pointAt(i, j, p)] = weightFrom(i, j, p, letters);
                }
            }
        }
    }

    private long weightFrom(int i, int j, int p, int letters) {
        if (isEnd(i, j, letters)) {
            return 1;
        }
        long total = 0;
        for (int kind = 0; kind < KINDS; kind++) {
            if (canStep(kind, i, j, letters)) {
                total += factorOf(p, kind, i, j) * weightAfter[pointAfter(kind, i, j)];
            }
        }
        return total;
    }

    private void fillWeightBefore() {
        for (int i = 0; i <= letterCount; i++) {
            for (int j = 0; j <= columnCount; j++) {
                for (int kind = 0; kind < KINDS; kind++) {
                    weightBefore[pointAt(i, j, kind)] = weightUpTo(i, j, kind);
                }
            }
        }
    }

    private long weightUpTo(int i, int j, int kind) {
        if (i == 0 && j == 0) {
            // The first step goes on as if a match had been before it.
            return kind == MATCH ? 1 : 0;
        }
        int fromI = i - lettersOf(kind);
        int fromJ = j - columnsOf(kind);
        if (fromI < 0 || fromJ < 0) {
            return 0;
        }
        long total = 0;
        for (int p = 0; p < KINDS; p++) {
            total += weightBefore[pointAt(fromI, fromJ, p)] * factorOf(p, kind, fromI, fromJ);
        }
        return total;
    }

    /** The weights of all ways that have a step of this kind after i letters and j columns. */
    private long weightThrough(int kind, int i, int j) {
        long total = 0;
        for (int p = 0; p < KINDS; p++) {
            total += weightBefore[pointAt(i, j, p)] * factorOf(p, kind, i, j);
        }
        return total * weightAfter[pointAfter(kind, i, j)];
    }

    private int endingsFrom(int i, int j) {
        if (isEnd(i, j, letterCount)) {
            return 1;
        }
        int total = 0;
        for (int kind = 0; kind < KINDS; kind++) {
            if (canStep(kind, i, j, letterCount)) {
                total += endings[pointAfter(kind, i, j)];
            }
        }
        return total;
    }

    private void fillGreatest() {
        for (int i = letterCount; i >= 0; i--) {
            for (int j = columnCount; j >= 0; j--) {
                for (int p = 0; p < KINDS; p++) {
                    setGreatest(i, j, p);
                }
            }
        }
    }

    private void setGreatest(int i, int j, int p) {
        boolean end = isEnd(i, j, letterCount);
        int score = end ? 0 : NONE;
        int first = MATCH;
        int count = end ? 1 : 0;
        for (int kind = 0; kind < KINDS; kind++) {
            if (canStep(kind, i, j, letterCount)) {
                int after = pointAfter(kind, i, j);
                int found = scoreOf(p, kind, i, j) + greatest[after];
                // Only a greater score takes over, so the first kind in dictionary order stays.
                if (found > score) {
                    score = found;
                    first = kind;
                    count = greatestCount[after];
                } else if (found == score) {
                    count += greatestCount[after];
                }
            }
        }
        int point = pointAt(i, j, p);
        greatest[point] = score;
        firstKind[point] = first;
        greatestCount[point] = count;
    }

    private int leastFrom(int i, int j, int p) {
        if (isEnd(i, j, letterCount)) {
            return 0;
        }
        int score = NONE;
        for (int kind = 0; kind < KINDS; kind++) {
            if (canStep(kind, i, j, letterCount)) {
                int found = scoreOf(p, kind, i, j) + least[pointAfter(kind, i, j)];
                if (score == NONE || found < score) {
                    score = found;
                }
            }
        }
        return score;
    }

    private void fillGreatestOf(int steps) {
        for (int i = 0; i <= letterCount; i++) {
            for (int j = 0; j <= columnCount; j++) {
                for (int p = 0; p < KINDS; p++) {
                    greatestOf[steps * POINTS + pointAt(i, j, p)] = greatestFrom(i, j, p, steps);
                }
            }
        }
    }

    private int greatestFrom(int i, int j, int p, int steps) {
        if (steps == 0) {
            return isEnd(i, j, letterCount) ? 0 : NONE;
        }
        int score = NONE;
        for (int kind = 0; kind < KINDS; kind++) {
            if (canStep(kind, i, j, letterCount)) {
                int ending = greatestOf[(steps - 1) * POINTS + pointAfter(kind, i, j)];
                int found = scoreOf(p, kind, i, j) + ending;
                if (ending != NONE && found > score) {
                    score = found;
                }
            }
        }
        return score;
    }
}
