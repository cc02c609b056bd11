// One method for each promise, with answers worked out by hand from the document. What is refused
// has its tests in RefusalTest, the least and the greatest in ExtremesTest.
public final class PromisesTest {
    private static final int LOW = Integer.MIN_VALUE;
    private static final int HIGH = Integer.MAX_VALUE;
    private static final int NONE = ProfileHmm.NONE;
    private static final int BAD_ARG = ProfileHmm.BAD_ARG;
    private static final int FULL = ProfileHmm.FULL;

    private static int wrong = 0;

    private static void due(String call, long got, long want) {
        if (got != want) {
            wrong++;
            System.out.println(call + " answered " + got + ", due is " + want);
        }
    }

    public static void main(String[] args) {
        newObject();
        objectsAreApart();
        columns();
        like();
        pass();
        letter();
        clear();
        length();
        sum();
        matched();
        deleted();
        inserted();
        ways();
        best();
        bestStep();
        bestStepTakesFirstOfTies();
        bestOf();
        ties();
        worst();
        next();
        nextOfFullWord();
        System.out.println(wrong == 0 ? "all promises hold" : wrong + " answers are not as due");
        if (wrong != 0) {
            System.exit(1);
        }
    }

    private static ProfileHmm with(int columns, int... letters) {
        ProfileHmm x = new ProfileHmm(columns);
        for (int a : letters) {
            x.letter(a);
        }
        return x;
    }

    // One column and the letter 2. Its ways: 0 (weight 2*3 = 6, score 5), 1 2 (weight 4*5 = 20,
    // score 9) and 2 1 (weight 7*6 = 42, score 13).
    private static ProfileHmm small() {
        ProfileHmm x = with(1, 2);
        x.like(1, 2, 3);
        x.pass(0, 0, 2);
        x.pass(0, 1, 4);
        x.pass(1, 2, 5);
        x.pass(0, 2, 7);
        x.pass(2, 1, 6);
        return x;
    }

    private static void newObject() {
        int[] asked = {LOW, -1, 0, 1, 2, 3, 4, 5, HIGH};
        int[] made = {1, 1, 1, 1, 2, 3, 4, 4, 4};
        for (int k = 0; k < asked.length; k++) {
            ProfileHmm x = new ProfileHmm(asked[k]);
            due("1: columns of new ProfileHmm(" + asked[k] + ")", x.columns(), made[k]);
            due("1: length of a new object", x.length(), 0);
            for (int j = 1; j <= made[k]; j++) {
                for (int a = 0; a < 4; a++) {
                    due("1: first liking " + j + " " + a, x.like(j, a, 1), 1);
                }
            }
            for (int p = 0; p < 3; p++) {
                for (int q = 0; q < 3; q++) {
                    due("1: first passage " + p + " " + q, x.pass(p, q, 1), 1);
                }
            }
        }
    }

    private static void objectsAreApart() {
        ProfileHmm x = small();
        ProfileHmm y = with(4, 1, 1, 1);
        due("1: columns beside another object", x.columns(), 1);
        due("1: length beside another object", x.length(), 1);
        due("1: sum beside another object", x.sum(), 68);
        y.like(1, 2, 9);
        y.pass(0, 0, 9);
        y.clear();
        due("1: sum after calls on another object", x.sum(), 68);
        due("1: liking after calls on another object", x.like(1, 2, 3), 3);
        due("1: passage after calls on another object", x.pass(0, 0, 2), 2);
        due("1: length of the other object", y.length(), 0);
    }

    private static void columns() {
        for (int columns = 1; columns <= 4; columns++) {
            ProfileHmm x = with(columns, 0, 1);
            due("2: columns", x.columns(), columns);
            x.clear();
            x.like(1, 1, 9);
            due("2: columns later", x.columns(), columns);
        }
    }

    private static void like() {
        ProfileHmm x = new ProfileHmm(4);
        for (int j = 1; j <= 4; j++) {
            for (int a = 0; a < 4; a++) {
                due("3: like for the first time", x.like(j, a, (j + 2 * a) % 10), 1);
            }
        }
        for (int j = 1; j <= 4; j++) {
            for (int a = 0; a < 4; a++) {
                due("3: like again " + j + " " + a, x.like(j, a, 0), (j + 2 * a) % 10);
                due("3: like after 0", x.like(j, a, 9), 0);
                due("3: like after 9", x.like(j, a, 5), 9);
            }
        }
    }

    private static void pass() {
        ProfileHmm x = new ProfileHmm(1);
        for (int k = 0; k < 9; k++) {
            due("4: pass for the first time", x.pass(k / 3, k % 3, k), 1);
        }
        for (int k = 0; k < 9; k++) {
            due("4: pass again", x.pass(k / 3, k % 3, 9), k);
            due("4: pass after 9", x.pass(k / 3, k % 3, 0), 9);
            due("4: pass after 0", x.pass(k / 3, k % 3, 3), 0);
        }
    }

    private static void letter() {
        ProfileHmm x = new ProfileHmm(1);
        for (int n = 1; n <= 7; n++) {
            for (int bad : new int[] {LOW, -1, 4, HIGH}) {
                due("5: letter " + bad, x.letter(bad), BAD_ARG);
            }
            due("5: letter", x.letter(n % 4), n);
        }
        due("5: letter of a full word", x.letter(0), FULL);
        due("5: letter of a full word", x.letter(3), FULL);
        due("5: a bad letter is seen before the full word", x.letter(4), BAD_ARG);
        due("5: a bad letter is seen before the full word", x.letter(-1), BAD_ARG);
        due("5: length after refused letters", x.length(), 7);
        // Letters stand where they were appended: 1 2 3 0 1 2 3.
        x.like(1, 0, 7);
        due("5: place of letter 0", x.matched(3, 1), 7);
        due("5: place of letter 3", x.matched(6, 1), 1);
    }

    private static void clear() {
        ProfileHmm x = small();
        x.clear();
        due("6: length after clear", x.length(), 0);
        due("6: ways after clear", x.ways(), 1);
        due("6: sum after clear", x.sum(), 7);
        due("6: no place after clear", x.matched(0, 1), 0);
        due("6: no place after clear", x.inserted(0), 0);
        due("6: likings stay", x.like(1, 2, 3), 3);
        due("6: passages stay", x.pass(2, 1, 6), 6);
        due("6: letter after clear", x.letter(2), 1);
        due("6: sum of the word built again", x.sum(), 68);
        ProfileHmm full = with(1, 0, 0, 0, 0, 0, 0, 0);
        full.clear();
        full.clear();
        due("6: a full word may be cleared", full.letter(1), 1);
    }

    private static void length() {
        ProfileHmm x = new ProfileHmm(3);
        for (int n = 0; n <= 7; n++) {
            due("7: length", x.length(), n);
            x.letter(4);
            due("7: length after a refused letter", x.length(), n);
            x.letter(1);
        }
        due("7: length of a full word", x.length(), 7);
    }

    private static void sum() {
        due("8: sum", small().sum(), 68);
        ProfileHmm x = new ProfileHmm(3);
        x.pass(0, 2, 5);
        x.pass(2, 2, 3);
        due("8: sum of the empty word", x.sum(), 45);
        x.pass(2, 2, 0);
        due("8: sum with a passage of 0", x.sum(), 0);
        // Every factor 9 and matches alone: 9 to the power 8.
        ProfileHmm y = with(4, 3, 3, 3, 3);
        for (int j = 1; j <= 4; j++) {
            y.like(j, 3, 9);
        }
        for (int k = 0; k < 9; k++) {
            y.pass(k / 3, k % 3, k == 0 ? 9 : 0);
        }
        due("8: sum of matches alone", y.sum(), 43046721L);
        // Inserts and deletes alone, every passage 9, likings 0: C(11, 4) ways of 9 to the 11.
        ProfileHmm z = with(4, 1, 1, 1, 1, 1, 1, 1);
        for (int j = 1; j <= 4; j++) {
            z.like(j, 1, 0);
        }
        for (int k = 0; k < 9; k++) {
            z.pass(k / 3, k % 3, 9);
        }
        due("8: sum beyond an int", z.sum(), 330L * 31381059609L);
    }

    private static void matched() {
        due("9: matched", small().matched(0, 1), 6);
        // Two columns and two letters, all factors 1: 13 ways.
        ProfileHmm x = with(2, 0, 1);
        due("9: first at first", x.matched(0, 1), 3);
        due("9: first at second", x.matched(0, 2), 1);
        due("9: second at first", x.matched(1, 1), 1);
        due("9: second at second", x.matched(1, 2), 3);
        x.like(2, 1, 4);
        due("9: the liking counts", x.matched(1, 2), 12);
        due("9: and in ways with another match", x.matched(0, 1), 6);
        for (int bad : new int[] {LOW, -1, 2, 3, 7, HIGH}) {
            due("9: no place " + bad, x.matched(bad, 1), 0);
        }
        for (int bad : new int[] {LOW, -1, 0, 3, 4, 5, HIGH}) {
            due("9: no column " + bad, x.matched(1, bad), 0);
        }
        due("9: no place in the empty word", new ProfileHmm(4).matched(0, 1), 0);
    }

    private static void deleted() {
        due("10: deleted", small().deleted(1), 62);
        ProfileHmm x = with(2, 0, 1);
        due("10: first column", x.deleted(1), 9);
        due("10: second column", x.deleted(2), 9);
        for (int bad : new int[] {LOW, -1, 0, 3, 4, 5, HIGH}) {
            due("10: no column " + bad, x.deleted(bad), 0);
        }
        ProfileHmm empty = new ProfileHmm(4);
        empty.pass(0, 2, 3);
        empty.pass(2, 2, 2);
        for (int j = 1; j <= 4; j++) {
            due("10: deleted in the empty word", empty.deleted(j), 24);
        }
    }

    private static void inserted() {
        due("11: inserted", small().inserted(0), 62);
        ProfileHmm x = with(2, 0, 1);
        due("11: first place", x.inserted(0), 9);
        due("11: second place", x.inserted(1), 9);
        for (int bad : new int[] {LOW, -1, 2, 3, 7, HIGH}) {
            due("11: no place " + bad, x.inserted(bad), 0);
        }
        due("11: no place in the empty word", new ProfileHmm(2).inserted(0), 0);
    }

    // The numbers of Delannoy, a row for each L and an entry for each n.
    private static void ways() {
        int[][] table = {
            {1, 3, 5, 7, 9, 11, 13, 15},
            {1, 5, 13, 25, 41, 61, 85, 113},
            {1, 7, 25, 63, 129, 231, 377, 575},
            {1, 9, 41, 129, 321, 681, 1289, 2241}};
        for (int columns = 1; columns <= 4; columns++) {
            ProfileHmm x = new ProfileHmm(columns);
            for (int n = 0; n <= 7; n++) {
                due("12: ways, L " + columns + ", n " + n, x.ways(), table[columns - 1][n]);
                x.letter(n % 4);
            }
            for (int k = 0; k < 9; k++) {
                x.pass(k / 3, k % 3, 0);
            }
            due("12: ways of weight 0 are ways", x.ways(), table[columns - 1][7]);
        }
    }

    private static void best() {
        due("13: best", small().best(), 13);
        ProfileHmm x = new ProfileHmm(3);
        x.pass(0, 2, 5);
        x.pass(2, 2, 3);
        due("13: best of the empty word", x.best(), 11);
        x.pass(0, 2, 0);
        x.pass(2, 2, 0);
        due("13: best may be 0", x.best(), 0);
        // A way of weight 0 still has a score: here the insert and the delete, 0 + 9.
        ProfileHmm y = with(1, 0);
        y.pass(0, 1, 0);
        y.pass(1, 2, 9);
        due("13: best of a way of weight 0", y.best(), 9);
        due("13: and its first step", y.bestStep(0), 1);
    }

    private static void bestStep() {
        ProfileHmm x = small();
        due("14: first step", x.bestStep(0), 2);
        due("14: second step", x.bestStep(1), 1);
        for (int bad : new int[] {LOW, -1, 2, 3, 10, 11, 12, HIGH}) {
            due("14: no step " + bad, x.bestStep(bad), NONE);
        }
        // Matches alone, 4 steps for 4 letters and 4 columns.
        ProfileHmm y = with(4, 0, 1, 2, 3);
        for (int j = 1; j <= 4; j++) {
            y.like(j, j - 1, 9);
        }
        for (int s = 0; s < 4; s++) {
            due("14: step " + s + " of matches", y.bestStep(s), 0);
        }
        due("14: no step after the matches", y.bestStep(4), NONE);
        // The longest way: seven inserts, then four deletes.
        ProfileHmm z = with(4, 0, 0, 0, 0, 0, 0, 0);
        z.pass(0, 0, 0);
        z.pass(0, 1, 9);
        z.pass(1, 1, 9);
        z.pass(1, 2, 9);
        z.pass(2, 2, 9);
        for (int s = 0; s < 11; s++) {
            due("14: step " + s + " of the longest way", z.bestStep(s), s < 7 ? 1 : 2);
        }
        due("14: no step 11", z.bestStep(11), NONE);
    }

    private static void bestStepTakesFirstOfTies() {
        // All scores are 2: 0 comes before 1 2 and 2 1.
        ProfileHmm x = with(1, 0);
        due("14: first of three", x.bestStep(0), 0);
        due("14: and it has one step", x.bestStep(1), NONE);
        // Without the match, 1 2 comes before 2 1.
        x.like(1, 0, 0);
        due("14: first of two", x.bestStep(0), 1);
        due("14: then the delete", x.bestStep(1), 2);
        // All scores are 3: the first way of two columns and one letter is 0 2.
        ProfileHmm y = with(2, 3);
        due("14: match at once", y.bestStep(0), 0);
        due("14: delete behind it", y.bestStep(1), 2);
        due("14: no third step", y.bestStep(2), NONE);
        // The one way of the empty word is best even with the score 0.
        ProfileHmm z = new ProfileHmm(2);
        z.pass(0, 2, 0);
        z.pass(2, 2, 0);
        due("14: a delete with the score 0", z.bestStep(0), 2);
        due("14: and another", z.bestStep(1), 2);
        due("14: no more deletes", z.bestStep(2), NONE);
    }

    private static void bestOf() {
        ProfileHmm x = small();
        due("15: one step", x.bestOf(1), 5);
        due("15: two steps", x.bestOf(2), 13);
        for (int bad : new int[] {LOW, -4, -1, 0, 3, 11, 12, 13, HIGH}) {
            due("15: no way of " + bad + " steps", x.bestOf(bad), NONE);
        }
        for (int columns = 1; columns <= 4; columns++) {
            ProfileHmm y = new ProfileHmm(columns);
            for (int n = 0; n <= 7; n++) {
                for (int s = 0; s <= 12; s++) {
                    boolean some = s >= n && s >= columns && s <= n + columns;
                    long want = some ? n + columns : NONE;
                    due("15: L " + columns + ", n " + n + ", s " + s, y.bestOf(s), want);
                }
                y.letter(n % 4);
            }
        }
        ProfileHmm zero = new ProfileHmm(2);
        zero.pass(0, 2, 0);
        zero.pass(2, 2, 0);
        due("15: a score of 0 is not none", zero.bestOf(2), 0);
    }

    private static void ties() {
        ProfileHmm x = small();
        due("16: one alone", x.ties(), 1);
        x.pass(0, 0, 9);
        x.like(1, 2, 4);
        due("16: two", x.ties(), 2);
        x.pass(0, 1, 8);
        due("16: three", x.ties(), 3);
        due("16: one way of the empty word", new ProfileHmm(4).ties(), 1);
        ProfileHmm y = with(4, 0, 1, 2, 3, 0, 1, 2);
        due("16: all ways", y.ties(), 2241);
        for (int k = 0; k < 9; k++) {
            y.pass(k / 3, k % 3, 0);
        }
        for (int j = 1; j <= 4; j++) {
            for (int a = 0; a < 4; a++) {
                y.like(j, a, 0);
            }
        }
        due("16: all ways with the score 0", y.ties(), 2241);
    }

    private static void worst() {
        ProfileHmm x = small();
        due("17: worst", x.worst(), 5);
        x.pass(2, 1, 0);
        x.pass(0, 2, 1);
        due("17: worst of another way", x.worst(), 1);
        x.pass(2, 1, 3);
        due("17: worst by one", x.worst(), 4);
        x.pass(0, 1, 0);
        x.pass(1, 2, 0);
        due("17: worst may be 0", x.worst(), 0);
        ProfileHmm high = new ProfileHmm(4);
        high.pass(0, 2, 9);
        high.pass(2, 2, 9);
        due("17: worst of the empty word", high.worst(), 36);
    }

    private static void next() {
        ProfileHmm x = small();
        x.clear();
        // Match weights 2 * (1 + 1 + 3 + 1), and four times 20 + 42.
        due("18: next of the empty word", x.next(), 260);
        due("18: next appends nothing", x.length(), 0);
        due("18: the sum stays", x.sum(), 7);
        x.letter(2);
        x.next();
        due("18: the letters stay", x.sum(), 68);
        long want = 0;
        for (int a = 0; a < 4; a++) {
            ProfileHmm y = small();
            y.letter(a);
            want += y.sum();
        }
        due("18: next is the sum over longer words", x.next(), want);
    }

    private static void nextOfFullWord() {
        // The numbers of Delannoy for n = 8, four times each.
        int[] longer = {17, 145, 833, 3649};
        for (int columns = 1; columns <= 4; columns++) {
            ProfileHmm x = with(columns, 0, 1, 2, 3, 0, 1, 2);
            long before = x.sum();
            due("18: next of a full word", x.next(), 4L * longer[columns - 1]);
            due("18: a full word stays", x.length(), 7);
            due("18: its sum stays", x.sum(), before);
            due("18: it stays full", x.letter(0), FULL);
        }
        // One column without deletes, and letter 0 is not liked: the eighth letter alone may match.
        ProfileHmm y = with(1, 0, 0, 0, 0, 0, 0, 0);
        for (int a = 0; a < 4; a++) {
            y.like(1, a, 2 * a);
        }
        y.pass(0, 2, 0);
        y.pass(1, 2, 0);
        due("18: likings of the eighth letter", y.next(), 12);
    }
}
