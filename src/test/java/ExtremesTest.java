// One method for each sentence of the document that names an extreme without refusing a call: the
// least and the greatest object, the empty and the full word, the first step, the first of many
// ways, the greatest sums and the last call. All answers are worked out by hand or by a formula.
public final class ExtremesTest {
    private static final int LOW = Integer.MIN_VALUE;
    private static final int HIGH = Integer.MAX_VALUE;
    private static final int FULL = ProfileHmm.FULL;
    private static final int NONE = ProfileHmm.NONE;
    private static final int MATCH = 0;
    private static final int INSERT = 1;
    private static final int DELETE = 2;

    private static int wrong = 0;

    private static void due(String call, long got, long want) {
        if (got != want) {
            wrong++;
            System.out.println(call + " answered " + got + ", due is " + want);
        }
    }

    public static void main(String[] args) {
        theLastCall();
        newWordIsEmpty();
        fewerThanOneColumn();
        moreThanFourColumns();
        columnsFromOneToFour();
        allValuesAreOneAtFirst();
        firstStepComesFromMatch();
        laterStepsComeFromTheStepBefore();
        theWayWithoutStepsIsNone();
        theEmptyWord();
        clearedWordIsEmpty();
        lengthFromZeroToSeven();
        greatestSums();
        greatestSumsOfParts();
        greatestNext();
        sumsOfNoBitsOfAnInt();
        leastSums();
        greatestScores();
        leastScores();
        numbersOfWays();
        firstOfTheBestWays();
        tiesFromOneToAllWays();
        nextOfTheEmptyWord();
        nextOfTheFullWord();
        System.out.println(wrong == 0 ? "all extremes hold" : wrong + " answers are not as due");
        if (wrong != 0) {
            System.exit(1);
        }
    }

    private static ProfileHmm made(int columns, int length) {
        ProfileHmm x = new ProfileHmm(columns);
        for (int i = 0; i < length; i++) {
            x.letter(i % 4);
        }
        return x;
    }

    private static ProfileHmm filled(int columns, int length, int passage, int liking) {
        ProfileHmm x = made(columns, length);
        setPassages(x, passage);
        setLikings(x, liking);
        return x;
    }

    private static void setPassages(ProfileHmm x, int passage) {
        for (int k = 0; k < 9; k++) {
            x.pass(k / 3, k % 3, passage);
        }
    }

    private static void setLikings(ProfileHmm x, int liking) {
        for (int j = 1; j <= x.columns(); j++) {
            for (int a = 0; a < 4; a++) {
                x.like(j, a, liking);
            }
        }
    }

    private static String at(int columns, int length) {
        return " with L " + columns + ", n " + length;
    }

    // How many ways there are for so many columns and letters: the numbers of Delannoy.
    private static long waysOf(int columns, int length) {
        long[][] table = new long[columns + 1][length + 1];
        for (int j = 0; j <= columns; j++) {
            for (int i = 0; i <= length; i++) {
                boolean edge = i == 0 || j == 0;
                table[j][i] = edge ? 1 : table[j - 1][i] + table[j][i - 1] + table[j - 1][i - 1];
            }
        }
        return table[columns][length];
    }

    private static long power(long base, int exponent) {
        long product = 1;
        for (int k = 0; k < exponent; k++) {
            product *= base;
        }
        return product;
    }

    // What it is: "An object is used for at most 512 calls after it has been made".
    private static void theLastCall() {
        ProfileHmm x = new ProfileHmm(4);
        for (int call = 1; call <= 63; call++) {
            for (int n = 1; n <= 7; n++) {
                due("letter in round " + call, x.letter(3), n);
            }
            x.clear();
        }
        for (int n = 1; n <= 7; n++) {
            due("letter of call " + (504 + n), x.letter(3), n);
        }
        due("sum as call 512", x.sum(), 2241);
    }

    // Promise 1: "The word is empty."
    private static void newWordIsEmpty() {
        for (int columns = -1; columns <= 6; columns++) {
            ProfileHmm x = new ProfileHmm(columns);
            due("length of a new object", x.length(), 0);
            due("ways of a new object", x.ways(), 1);
            due("inserted(0) of a new object", x.inserted(0), 0);
            due("matched(0, 1) of a new object", x.matched(0, 1), 0);
            due("the first letter of a new object", x.letter(0), 1);
        }
    }

    // Promise 1: "below 1 it becomes 1".
    private static void fewerThanOneColumn() {
        for (int columns : new int[] {LOW, LOW + 1, -65534, -254, -2, -1, 0, 1}) {
            hasColumns("new ProfileHmm(" + columns + ")", columns, 1);
        }
        hasColumns("new ProfileHmm(2)", 2, 2);
    }

    // Promise 1: "above 4 it becomes 4".
    private static void moreThanFourColumns() {
        for (int columns : new int[] {4, 5, 6, 258, 65538, HIGH - 1, HIGH}) {
            hasColumns("new ProfileHmm(" + columns + ")", columns, 4);
        }
        hasColumns("new ProfileHmm(3)", 3, 3);
    }

    // Terms: "it has L columns, numbered 1 to L, L from 1 to 4", and promise 2: "L."
    private static void columnsFromOneToFour() {
        for (int columns = 1; columns <= 4; columns++) {
            hasColumns("new ProfileHmm(" + columns + ")", columns, columns);
        }
    }

    private static void hasColumns(String call, int asked, int columns) {
        ProfileHmm x = new ProfileHmm(asked);
        due(call + ": columns", x.columns(), columns);
        due(call + ": first column", x.like(1, 0, 1), 1);
        due(call + ": last column", x.like(columns, 3, 1), 1);
        due(call + ": column before the first", x.like(0, 0, 1), ProfileHmm.BAD_ARG);
        due(call + ": column behind the last", x.like(columns + 1, 3, 1), ProfileHmm.BAD_ARG);
        due(call + ": best of the empty word", x.best(), columns);
        due(call + ": last delete", x.bestStep(columns - 1), DELETE);
        due(call + ": no more deletes", x.bestStep(columns), NONE);
        x.letter(2);
        due(call + ": ways of one letter", x.ways(), 2 * columns + 1);
        x.clear();
        due(call + ": columns later", x.columns(), columns);
    }

    // Terms: "All passages t(p, q), 0 to 9, p and q from 0 to 2, are 1 at first, all likings 1."
    private static void allValuesAreOneAtFirst() {
        for (int columns = 1; columns <= 4; columns++) {
            for (int length = 0; length <= 7; length++) {
                due("first sum" + at(columns, length), made(columns, length).sum(),
                    waysOf(columns, length));
            }
            ProfileHmm x = new ProfileHmm(columns);
            for (int k = 0; k < 9; k++) {
                due("first passage " + k / 3 + " " + k % 3, x.pass(k / 3, k % 3, 0), 1);
            }
            for (int k = 0; k < 4 * columns; k++) {
                due("first liking " + (1 + k / 4) + " " + k % 4, x.like(1 + k / 4, k % 4, 0), 1);
            }
        }
    }

    // Terms: "(p = 0 for the first step)". One column, one letter: the ways are 0, 1 2 and 2 1. The
    // passages 1 2 and 2 1 are 1, so the first steps make all the difference: 3, 5 and 4 from a
    // match, 7, 7 and 1 if an insert had been before, 2, 1 and 2 if a delete had been.
    private static void firstStepComesFromMatch() {
        ProfileHmm x = made(1, 1);
        int[] passages = {3, 5, 4, 7, 7, 1, 2, 1, 2};
        for (int k = 0; k < 9; k++) {
            x.pass(k / 3, k % 3, passages[k]);
        }
        due("sum by first steps", x.sum(), 12);
        due("matched by the first step", x.matched(0, 1), 3);
        due("deleted by first steps", x.deleted(1), 9);
        due("inserted by first steps", x.inserted(0), 9);
        due("best by first steps", x.best(), 6);
        due("best first step", x.bestStep(0), INSERT);
        due("ties by first steps", x.ties(), 1);
        due("worst by first steps", x.worst(), 4);
        due("best of one step", x.bestOf(1), 4);
        due("best of two steps", x.bestOf(2), 6);
        x.clear();
        due("sum of a delete alone", x.sum(), 4);
        due("a delete alone", x.deleted(1), 4);
        due("next by first steps", x.next(), 4 * 12);
    }

    // Terms: the passage is "from the kind p of the step before it to its own kind q"; the second
    // step is the first for which that is not 0.
    private static void laterStepsComeFromTheStepBefore() {
        for (int p = 0; p < 3; p++) {
            for (int q = 0; q < 3; q++) {
                // No way but p q has a weight other than 0.
                int length = (p == DELETE ? 0 : 1) + (q == DELETE ? 0 : 1);
                int columns = (p == INSERT ? 0 : 1) + (q == INSERT ? 0 : 1);
                if (columns > 0) {
                    ProfileHmm x = filled(columns, length, 0, 3);
                    x.pass(0, p, 5);
                    x.pass(p, q, 7);
                    int liked = (p == MATCH ? 1 : 0) + (q == MATCH ? 1 : 0);
                    long first = p == q && p == MATCH ? 7 : 5;
                    due("sum of the way " + p + " " + q, x.sum(), first * 7 * power(3, liked));
                }
            }
        }
        // No insert follows an insert in a way of two steps: this one is 1 1 2.
        ProfileHmm x = filled(1, 2, 0, 0);
        x.pass(0, 1, 5);
        x.pass(1, 1, 7);
        x.pass(1, 2, 2);
        due("sum of the way 1 1 2", x.sum(), 70);
    }

    // Terms: "the way without steps (it exists only for n = 0 and L = 0, so never)".
    private static void theWayWithoutStepsIsNone() {
        for (int columns : new int[] {LOW, -1, 0, 1, 2, 3, 4, 5, HIGH}) {
            for (int length = 0; length <= 7; length++) {
                ProfileHmm x = made(columns, length);
                due("bestOf(0) of new ProfileHmm(" + columns + ")", x.bestOf(0), NONE);
                due("bestStep(0) is none", x.bestStep(0) == NONE ? 1 : 0, 0);
            }
        }
    }

    // Terms: "0 <= n": the one way of the empty word is L deletes.
    private static void theEmptyWord() {
        for (int columns = 1; columns <= 4; columns++) {
            ProfileHmm x = filled(columns, 0, 9, 9);
            x.pass(0, 2, 7);
            x.pass(2, 2, 3);
            isWordOfDeletes(x, columns);
        }
    }

    // Promise 6: "The word is empty from now on.", from any length, and also if it was empty.
    private static void clearedWordIsEmpty() {
        for (int length = 0; length <= 7; length++) {
            for (int columns = 1; columns <= 4; columns++) {
                ProfileHmm x = filled(columns, length, 9, 9);
                x.pass(0, 2, 7);
                x.pass(2, 2, 3);
                askAll(x);
                x.clear();
                isWordOfDeletes(x, columns);
                x.clear();
                due("length after two clears", x.length(), 0);
                growsAsNew(x);
            }
        }
    }

    // What was found for a longer word must not come back after clear.
    private static void askAll(ProfileHmm x) {
        x.sum();
        x.matched(0, 1);
        x.deleted(1);
        x.inserted(0);
        x.ways();
        x.best();
        x.bestStep(0);
        x.bestOf(x.columns() + x.length());
        x.ties();
        x.worst();
        x.next();
    }

    private static void growsAsNew(ProfileHmm x) {
        int columns = x.columns();
        setPassages(x, 9);
        for (int n = 1; n <= 7; n++) {
            String name = " after clear" + at(columns, n);
            due("letter" + name, x.letter(0), n);
            due("ways" + name, x.ways(), waysOf(columns, n));
            due("ties" + name, x.ties(), waysOf(columns, n));
            due("sum" + name, x.sum(), waysOf(columns, n) * power(9, columns + n));
            due("best" + name, x.best(), 9 * (columns + n));
            due("worst" + name, x.worst(), 9 * (columns + n));
            due("bestOf" + name, x.bestOf(columns + n), 9 * (columns + n));
            due("bestOf beyond" + name, x.bestOf(columns + n + 1), NONE);
        }
        due("letter of a word full again", x.letter(0), FULL);
    }

    // The passage to a first delete is 7, from one delete to the next 3.
    private static void isWordOfDeletes(ProfileHmm x, int columns) {
        String name = " of the empty word" + at(columns, 0);
        long weight = 7 * power(3, columns - 1);
        int score = 7 + 3 * (columns - 1);
        due("length" + name, x.length(), 0);
        due("sum" + name, x.sum(), weight);
        due("ways" + name, x.ways(), 1);
        due("best" + name, x.best(), score);
        due("worst" + name, x.worst(), score);
        due("ties" + name, x.ties(), 1);
        for (int j = 1; j <= columns; j++) {
            due("deleted(" + j + ")" + name, x.deleted(j), weight);
            due("bestStep(" + (j - 1) + ")" + name, x.bestStep(j - 1), DELETE);
            due("matched(0, " + j + ")" + name, x.matched(0, j), 0);
        }
        due("bestStep(" + columns + ")" + name, x.bestStep(columns), NONE);
        for (int s = 0; s <= 12; s++) {
            due("bestOf(" + s + ")" + name, x.bestOf(s), s == columns ? score : NONE);
        }
        for (int i = 0; i <= 7; i++) {
            due("inserted(" + i + ")" + name, x.inserted(i), 0);
        }
    }

    // Terms: "0 <= n <= 7", and promise 7: "n."
    private static void lengthFromZeroToSeven() {
        ProfileHmm x = new ProfileHmm(2);
        for (int n = 0; n <= 6; n++) {
            due("length", x.length(), n);
            due("letter", x.letter(3 - n % 4), n + 1);
        }
        due("length of the full word", x.length(), 7);
        due("an eighth letter", x.letter(0), FULL);
        due("length after an eighth letter", x.length(), 7);
    }

    // Terms: "in longs, which wrap". No run of calls reaches a wrap-around; the greatest sums have
    // all values 9, and then each way has the weight 9 to the power L + n.
    private static void greatestSums() {
        for (int columns = 1; columns <= 4; columns++) {
            for (int length = 0; length <= 7; length++) {
                ProfileHmm x = filled(columns, length, 9, 9);
                long want = waysOf(columns, length) * power(9, columns + length);
                due("greatest sum" + at(columns, length), x.sum(), want);
            }
        }
        due("greatest sum of all", filled(4, 7, 9, 9).sum(), 70324954583769L);
    }

    // The same for promises 9, 10 and 11: the ways before the step times those behind it.
    private static void greatestSumsOfParts() {
        for (int columns = 1; columns <= 4; columns++) {
            for (int length = 0; length <= 7; length++) {
                ProfileHmm x = filled(columns, length, 9, 9);
                long weight = power(9, columns + length);
                for (int j = 1; j <= columns; j++) {
                    partsOfColumn(x, j, weight);
                }
                for (int i = 0; i < length; i++) {
                    partsOfPlace(x, i, weight);
                }
            }
        }
    }

    private static void partsOfColumn(ProfileHmm x, int j, long weight) {
        int length = x.length();
        int behind = x.columns() - j;
        long deleted = 0;
        for (int i = 0; i <= length; i++) {
            deleted += waysOf(j - 1, i) * waysOf(behind, length - i);
        }
        String name = at(x.columns(), length);
        due("greatest deleted(" + j + ")" + name, x.deleted(j), deleted * weight);
        for (int i = 0; i < length; i++) {
            long matched = waysOf(j - 1, i) * waysOf(behind, length - i - 1);
            due("greatest matched(" + i + ", " + j + ")" + name, x.matched(i, j), matched * weight);
        }
    }

    private static void partsOfPlace(ProfileHmm x, int i, long weight) {
        int columns = x.columns();
        int behind = x.length() - i - 1;
        long inserted = 0;
        for (int j = 0; j <= columns; j++) {
            inserted += waysOf(j, i) * waysOf(columns - j, behind);
        }
        String name = at(columns, x.length());
        due("greatest inserted(" + i + ")" + name, x.inserted(i), inserted * weight);
    }

    // The same for promise 18; the full word with four columns has the greatest sum of all.
    private static void greatestNext() {
        for (int columns = 1; columns <= 4; columns++) {
            for (int length = 0; length <= 7; length++) {
                ProfileHmm x = filled(columns, length, 9, 9);
                long want = 4 * waysOf(columns, length + 1) * power(9, columns + length + 1);
                due("greatest next" + at(columns, length), x.next(), want);
            }
        }
        due("greatest next of all", filled(4, 7, 9, 9).next(), 4122341514476676L);
    }

    // A weight of 8 to the power 11 is a multiple of 2 to the power 32: an int would show 0.
    private static void sumsOfNoBitsOfAnInt() {
        ProfileHmm x = filled(4, 7, 8, 8);
        due("sum in longs", x.sum(), 2241L << 33);
        due("matched in longs", x.matched(0, 1), 377L << 33);
        due("deleted in longs", x.deleted(1), 1408L << 33);
        due("inserted in longs", x.inserted(0), 1765L << 33);
        due("next in longs", x.next(), 4L * 3649 << 36);
    }

    // Terms: passages and likings go down to 0, and then no weight is left.
    private static void leastSums() {
        ProfileHmm x = filled(4, 7, 0, 9);
        due("sum without passages", x.sum(), 0);
        due("matched without passages", x.matched(0, 1), 0);
        due("deleted without passages", x.deleted(1), 0);
        due("inserted without passages", x.inserted(0), 0);
        due("next without passages", x.next(), 0);
        ProfileHmm y = filled(4, 7, 1, 0);
        due("sum without likings", y.sum(), 330);
        due("matched without likings", y.matched(0, 1), 0);
        due("deleted without likings", y.deleted(1), 330);
        due("inserted without likings", y.inserted(0), 330);
        due("next without likings", y.next(), 4 * 495);
    }

    // Promises 13, 15 and 17 with all values 9: every way has the score 9 times L + n.
    private static void greatestScores() {
        for (int columns = 1; columns <= 4; columns++) {
            for (int length = 0; length <= 7; length++) {
                ProfileHmm x = filled(columns, length, 9, 9);
                int score = 9 * (columns + length);
                String name = at(columns, length);
                due("greatest best" + name, x.best(), score);
                due("greatest worst" + name, x.worst(), score);
                for (int s = Math.max(columns, length); s <= columns + length; s++) {
                    due("greatest bestOf(" + s + ")" + name, x.bestOf(s), score);
                }
            }
        }
    }

    // The same with all values 0: a score of 0 is a score, and the ways are still ways.
    private static void leastScores() {
        for (int columns = 1; columns <= 4; columns++) {
            for (int length = 0; length <= 7; length++) {
                ProfileHmm x = filled(columns, length, 0, 0);
                String name = at(columns, length);
                due("least best" + name, x.best(), 0);
                due("least worst" + name, x.worst(), 0);
                due("ways of weight 0" + name, x.ways(), waysOf(columns, length));
                due("ties of weight 0" + name, x.ties(), waysOf(columns, length));
                for (int s = Math.max(columns, length); s <= columns + length; s++) {
                    due("least bestOf(" + s + ")" + name, x.bestOf(s), 0);
                }
            }
        }
    }

    // Promise 12, from the empty to the full word, from one column to four.
    private static void numbersOfWays() {
        for (int columns = 1; columns <= 4; columns++) {
            for (int length = 0; length <= 7; length++) {
                long ways = made(columns, length).ways();
                due("ways" + at(columns, length), ways, waysOf(columns, length));
            }
        }
        due("least number of ways", made(1, 0).ways(), 1);
        due("greatest number of ways", made(4, 7).ways(), 2241);
    }

    // Promise 14: "the first of the ways with the greatest score", which Terms orders "as in a
    // dictionary". When all ways tie, it starts with all matches that can be; when all ways without
    // a match tie, it starts with all inserts.
    private static void firstOfTheBestWays() {
        for (int value = 0; value <= 9; value += 3) {
            for (int columns = 1; columns <= 4; columns++) {
                for (int length = 0; length <= 7; length++) {
                    ProfileHmm x = filled(columns, length, value, value);
                    int rest = length > columns ? INSERT : DELETE;
                    for (int s = 0; s < Math.max(columns, length); s++) {
                        int kind = s < Math.min(columns, length) ? MATCH : rest;
                        due("bestStep(" + s + ")" + at(columns, length), x.bestStep(s), kind);
                    }
                }
            }
        }
        for (int columns = 1; columns <= 4; columns++) {
            for (int length = 0; length <= 7; length++) {
                ProfileHmm x = filled(columns, length, 9, 0);
                for (int s = 0; s < columns + length; s++) {
                    int kind = s < length ? INSERT : DELETE;
                    due("bestStep(" + s + ")" + at(columns, length), x.bestStep(s), kind);
                }
            }
        }
    }

    // Promise 16: at least the best way itself, at most all ways.
    private static void tiesFromOneToAllWays() {
        for (int columns = 1; columns <= 4; columns++) {
            for (int length = 0; length <= 7; length++) {
                ProfileHmm x = filled(columns, length, 9, 9);
                due("most ties" + at(columns, length), x.ties(), waysOf(columns, length));
                // Only the inserts at the start, then the deletes, have no passage but 9.
                setPassages(x, 0);
                setLikings(x, 0);
                x.pass(0, 1, 9);
                x.pass(1, 1, 9);
                x.pass(1, 2, 9);
                x.pass(2, 2, 9);
                due("fewest ties" + at(columns, length), x.ties(), 1);
            }
        }
    }

    // Promise 18 for n = 0: the words of one letter.
    private static void nextOfTheEmptyWord() {
        ProfileHmm x = new ProfileHmm(1);
        for (int a = 0; a < 4; a++) {
            x.like(1, a, 2 * a + 1);
        }
        // The matches weigh 1, 3, 5 and 7, each beside the two ways 1 2 and 2 1.
        due("next of the empty word", x.next(), 16 + 8);
        due("length after next", x.length(), 0);
        due("sum after next", x.sum(), 1);
        due("no place after next", x.matched(0, 1) + x.inserted(0), 0);
    }

    // Promise 18: "(also if it has 7 letters)".
    private static void nextOfTheFullWord() {
        for (int columns = 1; columns <= 4; columns++) {
            for (int length = 5; length <= 7; length++) {
                ProfileHmm x = made(columns, length);
                due("next" + at(columns, length), x.next(), 4 * waysOf(columns, length + 1));
                due("length after next", x.length(), length);
                due("sum after next", x.sum(), waysOf(columns, length));
                due("no place after next", x.matched(length, 1) + x.inserted(length), 0);
                due("letter after next", x.letter(0), length < 7 ? length + 1 : FULL);
            }
        }
        // Inserts alone and one match at the end: only the liking of the eighth letter counts.
        for (int a = 0; a < 4; a++) {
            ProfileHmm x = filled(1, 7, 0, 0);
            x.pass(0, 1, 1);
            x.pass(1, 1, 1);
            x.pass(1, 0, 1);
            x.like(1, a, 5);
            x.clear();
            for (int i = 0; i < 7; i++) {
                x.letter((a + 1) % 4);
            }
            due("next by the liking of letter " + a, x.next(), 5);
            due("sum without that letter", x.sum(), 0);
        }
    }
}
