import java.util.ArrayList;
import java.util.HashMap;
import java.util.List;
import java.util.Map;
import java.util.function.ToLongFunction;

// One method for each sentence of the document that refuses a call or an argument: what is refused
// answers its code and changes no later answer, what stands just inside the boundary is taken. Each
// is tried with every number of columns and at every length of the word.
public final class RefusalTest {
    private static final int LOW = Integer.MIN_VALUE;
    private static final int HIGH = Integer.MAX_VALUE;
    private static final int BAD_ARG = ProfileHmm.BAD_ARG;
    private static final int FULL = ProfileHmm.FULL;
    private static final int NONE = ProfileHmm.NONE;

    // Beside the least and the greatest, ints that look small once they are cut to a byte or a
    // short, or multiplied by 3 or 4.
    private static final int[] FAR = {
        LOW, LOW + 1, -(1 << 30), -1431655765, -65535, -255,
        257, 65537, (1 << 30) + 1, 1431655766, HIGH - 1, HIGH};

    // All letters are among the first four, and it is as long as a word may be.
    private static final int[] LETTERS = {2, 0, 3, 1, 1, 2, 0};

    // What marked objects answer that nobody called before, by their columns and length.
    private static final Map<String, List<String>> UNCALLED = new HashMap<>();

    private static int wrong = 0;

    private static void due(String call, Object got, Object want) {
        if (!got.equals(want)) {
            wrong++;
            if (wrong <= 40) {
                System.out.println(call + " answered " + got + ", due is " + want);
            }
        }
    }

    public static void main(String[] args) {
        noCallThrows();
        askingChangesNothing();
        likeOfNoColumn();
        likeOfNoLetter();
        likeToNoValue();
        likeOtherwiseAnswersWhatItWas();
        passFromNoKind();
        passToNoKind();
        passToNoValue();
        passOtherwiseAnswersWhatItWas();
        letterThatIsNone();
        letterOfFullWord();
        letterTestsItsArgumentFirst();
        letterOtherwiseAnswersTheNewLength();
        matchedAtNoPlace();
        matchedAtNoColumn();
        deletedAtNoColumn();
        insertedAtNoPlace();
        bestStepThatIsNone();
        bestOfNoWay();
        System.out.println(wrong == 0 ? "all refusals hold" : wrong + " answers are not as due");
        if (wrong != 0) {
            System.exit(1);
        }
    }

    // Passages 9 to 1 and likings of many values, so that hardly a change could go unseen.
    private static ProfileHmm marked(int columns, int length) {
        ProfileHmm x = new ProfileHmm(columns);
        for (int k = 0; k < 9; k++) {
            x.pass(k / 3, k % 3, markedPassage(k / 3, k % 3));
        }
        for (int j = 1; j <= columns; j++) {
            for (int a = 0; a < 4; a++) {
                x.like(j, a, markedLiking(j, a));
            }
        }
        for (int i = 0; i < length; i++) {
            x.letter(LETTERS[i]);
        }
        return x;
    }

    private static int markedPassage(int p, int q) {
        return 9 - 3 * p - q;
    }

    private static int markedLiking(int j, int a) {
        return (7 * j + 3 * a) % 10;
    }

    private static List<Integer> outside(int low, int high) {
        List<Integer> found = new ArrayList<>(List.of(low - 2, low - 1, high + 1, high + 2));
        for (int far : FAR) {
            found.add(far);
        }
        return found;
    }

    // Some 150 calls: what is held, the answers of every question, then those of the changes that
    // may come. What is held comes first, and what is refused behind the questions: a call that
    // did harm would do the same harm to an object that was not called before, and from there on
    // the two would no longer differ.
    private static List<String> allAnswers(ProfileHmm x, int columns, int length) {
        List<String> all = new ArrayList<>();
        addValues(x, columns, all);
        all.add("sum() " + x.sum());
        all.add("length() " + x.length());
        all.add("columns() " + x.columns());
        addSums(x, columns, length, all);
        addScores(x, columns, length, all);
        addNone(x, columns, length, all);
        for (int a = 3; a >= 0; a--) {
            all.add("letter(" + a + ") " + x.letter(a));
            all.add("then sum() " + x.sum());
        }
        x.clear();
        all.add("length() after clear " + x.length());
        all.add("sum() after clear " + x.sum());
        return all;
    }

    // A value can only be seen by setting another: it is set back at once.
    private static void addValues(ProfileHmm x, int columns, List<String> all) {
        for (int j = 1; j <= columns; j++) {
            for (int a = 0; a < 4; a++) {
                int was = x.like(j, a, 0);
                x.like(j, a, was);
                all.add("liking " + j + " " + a + " " + was);
            }
        }
        for (int k = 0; k < 9; k++) {
            int was = x.pass(k / 3, k % 3, 0);
            x.pass(k / 3, k % 3, was);
            all.add("passage " + k / 3 + " " + k % 3 + " " + was);
        }
    }

    private static void addSums(ProfileHmm x, int columns, int length, List<String> all) {
        all.add("next() " + x.next());
        for (int j = 1; j <= columns; j++) {
            all.add("deleted(" + j + ") " + x.deleted(j));
        }
        for (int i = 0; i < length; i++) {
            all.add("inserted(" + i + ") " + x.inserted(i));
            for (int j = 1; j <= columns; j++) {
                all.add("matched(" + i + ", " + j + ") " + x.matched(i, j));
            }
        }
    }

    private static void addScores(ProfileHmm x, int columns, int length, List<String> all) {
        all.add("ways() " + x.ways());
        all.add("best() " + x.best());
        all.add("ties() " + x.ties());
        all.add("worst() " + x.worst());
        int fewest = Math.max(columns, length);
        for (int s = 0; s < fewest; s++) {
            all.add("bestStep(" + s + ") " + x.bestStep(s));
        }
        for (int s = fewest; s <= columns + length; s++) {
            all.add("bestOf(" + s + ") " + x.bestOf(s));
        }
    }

    // What lies outside, and the steps that the best way may or may not have.
    private static void addNone(ProfileHmm x, int columns, int length, List<String> all) {
        for (int s = Math.max(columns, length); s <= 12; s++) {
            all.add("bestStep(" + s + ") " + x.bestStep(s));
        }
        for (int j : new int[] {0, columns + 1}) {
            all.add("deleted(" + j + ") " + x.deleted(j));
            all.add("matched(0, " + j + ") " + x.matched(0, j));
        }
        for (int i = length; i <= 7; i++) {
            all.add("inserted(" + i + ") " + x.inserted(i));
            all.add("matched(" + i + ", 1) " + x.matched(i, 1));
        }
        all.add("bestOf(0) " + x.bestOf(0));
        all.add("bestOf(12) " + x.bestOf(12));
    }

    // The call answers the code, and then the object answers as its twin that was not called.
    private static void refuses(
            String name, int columns, int length, ToLongFunction<ProfileHmm> call, long code) {
        ProfileHmm x = marked(columns, length);
        String at = name + " with L " + columns + ", n " + length;
        due(at, call.applyAsLong(x), code);
        isAsUncalled("after " + at, x, columns, length);
    }

    private static void isAsUncalled(String name, ProfileHmm x, int columns, int length) {
        List<String> got = allAnswers(x, columns, length);
        List<String> want = UNCALLED.computeIfAbsent(
            columns + " " + length,
            key -> allAnswers(marked(columns, length), columns, length));
        for (int k = 0; k < want.size(); k++) {
            due(name, got.get(k), want.get(k));
        }
    }

    private static void refusesAtEveryLength(
            String name, int columns, ToLongFunction<ProfileHmm> call, long code) {
        for (int length = 0; length <= 7; length++) {
            refuses(name, columns, length, call, code);
        }
    }

    private static void refusesEverywhere(String name, ToLongFunction<ProfileHmm> call, long code) {
        for (int columns = 1; columns <= 4; columns++) {
            refusesAtEveryLength(name, columns, call, code);
        }
    }

    // Terms: "No call ever throws."
    private static void noCallThrows() {
        List<Integer> any = outside(0, 9);
        for (int near = 0; near <= 9; near++) {
            any.add(near);
        }
        for (int columns : any) {
            quiet("new ProfileHmm(" + columns + ")", 1, 0, x -> new ProfileHmm(columns).sum());
        }
        for (int columns = 1; columns <= 4; columns++) {
            for (int length = 0; length <= 7; length++) {
                questionsAreQuiet(columns, length);
                for (int u : any) {
                    callsWithOneArgumentAreQuiet(columns, length, u);
                    for (int v : any) {
                        callsWithMoreArgumentsAreQuiet(columns, length, u, v);
                    }
                }
            }
        }
    }

    private static void quiet(
            String name, int columns, int length, ToLongFunction<ProfileHmm> call) {
        try {
            call.applyAsLong(marked(columns, length));
        } catch (Throwable thrown) {
            due(name + " with L " + columns + ", n " + length, thrown, "an answer");
        }
    }

    private static void questionsAreQuiet(int columns, int length) {
        quiet("columns()", columns, length, x -> x.columns());
        quiet("length()", columns, length, x -> x.length());
        quiet("sum()", columns, length, x -> x.sum());
        quiet("ways()", columns, length, x -> x.ways());
        quiet("best()", columns, length, x -> x.best());
        quiet("ties()", columns, length, x -> x.ties());
        quiet("worst()", columns, length, x -> x.worst());
        quiet("next()", columns, length, x -> x.next());
        quiet("clear()", columns, length, x -> {
            x.clear();
            return 0;
        });
    }

    private static void callsWithOneArgumentAreQuiet(int columns, int length, int u) {
        quiet("letter(" + u + ")", columns, length, x -> x.letter(u));
        quiet("deleted(" + u + ")", columns, length, x -> x.deleted(u));
        quiet("inserted(" + u + ")", columns, length, x -> x.inserted(u));
        quiet("bestStep(" + u + ")", columns, length, x -> x.bestStep(u));
        quiet("bestOf(" + u + ")", columns, length, x -> x.bestOf(u));
    }

    private static void callsWithMoreArgumentsAreQuiet(int columns, int length, int u, int v) {
        String pair = "(" + u + ", " + v + ")";
        quiet("matched" + pair, columns, length, x -> x.matched(u, v));
        quiet("like of " + pair, columns, length, x -> x.like(u, v, 5));
        quiet("like of 1 and " + pair, columns, length, x -> x.like(1, u, v));
        quiet("pass of " + pair, columns, length, x -> x.pass(u, v, 5));
        quiet("pass of 1 and " + pair, columns, length, x -> x.pass(1, u, v));
    }

    // Not promised: "Nothing is promised beyond the answers and state changes described above".
    // Questions describe no change; next() is one that looks beyond the word, also of a full one.
    private static void askingChangesNothing() {
        for (int columns = 1; columns <= 4; columns++) {
            for (int length = 0; length <= 7; length++) {
                changesNothing("columns()", columns, length, x -> x.columns());
                changesNothing("length()", columns, length, x -> x.length());
                changesNothing("sum()", columns, length, x -> x.sum());
                changesNothing("ways()", columns, length, x -> x.ways());
                changesNothing("best()", columns, length, x -> x.best());
                changesNothing("ties()", columns, length, x -> x.ties());
                changesNothing("worst()", columns, length, x -> x.worst());
                changesNothing("next()", columns, length, x -> x.next());
                askingOfAPlaceOrStepChangesNothing(columns, length);
            }
        }
    }

    private static void askingOfAPlaceOrStepChangesNothing(int columns, int length) {
        for (int k = 0; k <= columns + length; k++) {
            int s = k;
            changesNothing("bestStep(" + s + ")", columns, length, x -> x.bestStep(s));
            changesNothing("bestOf(" + s + ")", columns, length, x -> x.bestOf(s));
        }
        for (int k = 1; k <= columns; k++) {
            int j = k;
            changesNothing("deleted(" + j + ")", columns, length, x -> x.deleted(j));
            for (int m = 0; m < length; m++) {
                int i = m;
                String name = "matched(" + i + ", " + j + ")";
                changesNothing(name, columns, length, x -> x.matched(i, j));
            }
        }
        for (int k = 0; k < length; k++) {
            int i = k;
            changesNothing("inserted(" + i + ")", columns, length, x -> x.inserted(i));
        }
    }

    // Asked once only, since a change that the same question undoes is a change too.
    private static void changesNothing(
            String name, int columns, int length, ToLongFunction<ProfileHmm> question) {
        ProfileHmm x = marked(columns, length);
        question.applyAsLong(x);
        isAsUncalled("after " + name + " with L " + columns + ", n " + length, x, columns, length);
    }

    // Promise 3: "BAD_ARG if j is not 1 to L".
    private static void likeOfNoColumn() {
        for (int columns = 1; columns <= 4; columns++) {
            for (int j : outside(1, columns)) {
                for (int a = 0; a < 4; a++) {
                    int letter = a;
                    String name = "like(" + j + ", " + a + ", 5)";
                    refusesAtEveryLength(name, columns, x -> x.like(j, letter, 5), BAD_ARG);
                }
            }
        }
    }

    // Promise 3: "BAD_ARG if [...] a not 0 to 3".
    private static void likeOfNoLetter() {
        for (int columns = 1; columns <= 4; columns++) {
            for (int a : outside(0, 3)) {
                for (int j = 1; j <= columns; j++) {
                    int column = j;
                    String name = "like(" + j + ", " + a + ", 5)";
                    refusesAtEveryLength(name, columns, x -> x.like(column, a, 5), BAD_ARG);
                }
            }
        }
    }

    // Promise 3: "BAD_ARG if [...] x not 0 to 9."
    private static void likeToNoValue() {
        for (int value : outside(0, 9)) {
            for (int columns = 1; columns <= 4; columns++) {
                for (int k = 0; k < 4 * columns; k++) {
                    int j = 1 + k / 4;
                    int a = k % 4;
                    String name = "like(" + j + ", " + a + ", " + value + ")";
                    refusesAtEveryLength(name, columns, x -> x.like(j, a, value), BAD_ARG);
                }
            }
            refusesEverywhere("like(5, 4, " + value + ")", x -> x.like(5, 4, value), BAD_ARG);
        }
    }

    // Promise 3: "Otherwise what it was."
    private static void likeOtherwiseAnswersWhatItWas() {
        for (int columns = 1; columns <= 4; columns++) {
            for (int length = 0; length <= 7; length++) {
                for (int k = 0; k < 4 * columns; k++) {
                    likeAnswersWhatItWas(columns, length, 1 + k / 4, k % 4);
                }
            }
        }
    }

    private static void likeAnswersWhatItWas(int columns, int length, int j, int a) {
        ProfileHmm x = marked(columns, length);
        String at = "like of " + j + " and " + a + " with L " + columns + ", n " + length;
        due(at + " to 0", x.like(j, a, 0), markedLiking(j, a));
        due(at + " to 9", x.like(j, a, 9), 0);
        due(at + " to 9 again", x.like(j, a, 9), 9);
        due(at + " to 0 again", x.like(j, a, 0), 9);
        due(at + " to 10", x.like(j, a, 10), BAD_ARG);
        due(at + " behind a refused one", x.like(j, a, markedLiking(j, a)), 0);
        isAsUncalled("after " + at, x, columns, length);
    }

    // Promise 4: "BAD_ARG if p or q is not 0 to 2", for p.
    private static void passFromNoKind() {
        for (int p : outside(0, 2)) {
            for (int q = 0; q < 3; q++) {
                int kind = q;
                String name = "pass(" + p + ", " + q + ", 5)";
                refusesEverywhere(name, x -> x.pass(p, kind, 5), BAD_ARG);
            }
        }
    }

    // Promise 4: "BAD_ARG if p or q is not 0 to 2", for q.
    private static void passToNoKind() {
        for (int q : outside(0, 2)) {
            for (int p = 0; p < 3; p++) {
                int kind = p;
                String name = "pass(" + p + ", " + q + ", 5)";
                refusesEverywhere(name, x -> x.pass(kind, q, 5), BAD_ARG);
            }
        }
    }

    // Promise 4: "BAD_ARG if [...] x not 0 to 9."
    private static void passToNoValue() {
        for (int value : outside(0, 9)) {
            for (int k = 0; k < 9; k++) {
                int p = k / 3;
                int q = k % 3;
                String name = "pass(" + p + ", " + q + ", " + value + ")";
                refusesEverywhere(name, x -> x.pass(p, q, value), BAD_ARG);
            }
            refusesEverywhere("pass(3, 3, " + value + ")", x -> x.pass(3, 3, value), BAD_ARG);
        }
    }

    // Promise 4: "Otherwise what it was."
    private static void passOtherwiseAnswersWhatItWas() {
        for (int columns = 1; columns <= 4; columns++) {
            for (int length = 0; length <= 7; length++) {
                for (int k = 0; k < 9; k++) {
                    passAnswersWhatItWas(columns, length, k / 3, k % 3);
                }
            }
        }
    }

    private static void passAnswersWhatItWas(int columns, int length, int p, int q) {
        ProfileHmm x = marked(columns, length);
        String at = "pass of " + p + " and " + q + " with L " + columns + ", n " + length;
        due(at + " to 0", x.pass(p, q, 0), markedPassage(p, q));
        due(at + " to 9", x.pass(p, q, 9), 0);
        due(at + " to 9 again", x.pass(p, q, 9), 9);
        due(at + " to 0 again", x.pass(p, q, 0), 9);
        due(at + " to 10", x.pass(p, q, 10), BAD_ARG);
        due(at + " behind a refused one", x.pass(p, q, markedPassage(p, q)), 0);
        isAsUncalled("after " + at, x, columns, length);
    }

    // Promise 5: "a not 0 to 3 answers BAD_ARG".
    private static void letterThatIsNone() {
        for (int columns = 1; columns <= 4; columns++) {
            for (int length = 0; length <= 6; length++) {
                for (int a : outside(0, 3)) {
                    refuses("letter(" + a + ")", columns, length, x -> x.letter(a), BAD_ARG);
                }
            }
        }
    }

    // Promise 5: "FULL", which is "The word has 7 letters."
    private static void letterOfFullWord() {
        for (int columns = 1; columns <= 4; columns++) {
            for (int a = 0; a < 4; a++) {
                int letter = a;
                refuses("letter(" + a + ")", columns, 7, x -> x.letter(letter), FULL);
                due("the seventh letter " + a, marked(columns, 6).letter(a), 7);
            }
        }
    }

    // Promise 5: "Tested in this order: a not 0 to 3 answers BAD_ARG; FULL."
    private static void letterTestsItsArgumentFirst() {
        for (int columns = 1; columns <= 4; columns++) {
            for (int a : outside(0, 3)) {
                refuses("letter(" + a + ")", columns, 7, x -> x.letter(a), BAD_ARG);
            }
        }
    }

    // Promise 5: "Appends letter a to the word." and "Otherwise the new n.", for each letter. When
    // the last letter is matched at column 1, only inserts stand before it and deletes behind it.
    private static void letterOtherwiseAnswersTheNewLength() {
        for (int columns = 1; columns <= 4; columns++) {
            for (int a = 0; a <= 3; a++) {
                ProfileHmm x = new ProfileHmm(columns);
                x.like(1, a, 7);
                for (int n = 1; n <= 7; n++) {
                    String at = "letter " + a + " as number " + n + " with L " + columns;
                    due(at, x.letter(a), n);
                    due("the match of " + at, x.matched(n - 1, 1), 7L);
                }
            }
        }
    }

    // Promise 9: "0 if there is no such place".
    private static void matchedAtNoPlace() {
        for (int length = 0; length <= 7; length++) {
            for (int i : outside(0, length - 1)) {
                for (int columns = 1; columns <= 4; columns++) {
                    for (int j = 1; j <= columns; j++) {
                        int column = j;
                        String name = "matched(" + i + ", " + j + ")";
                        refuses(name, columns, length, x -> x.matched(i, column), 0);
                    }
                }
            }
            for (int i = 0; i < length; i++) {
                // With one column, a match at place i has inserts before and behind it.
                ProfileHmm x = new ProfileHmm(1);
                for (int k = 0; k < length; k++) {
                    x.letter(k % 4);
                }
                due("matched(" + i + ", 1) of " + length, x.matched(i, 1), 1L);
            }
        }
    }

    // Promise 9: "0 if there is no such [...] column.", at each place and just outside.
    private static void matchedAtNoColumn() {
        for (int columns = 1; columns <= 4; columns++) {
            for (int j : outside(1, columns)) {
                for (int i = -1; i <= 7; i++) {
                    int place = i;
                    String name = "matched(" + i + ", " + j + ")";
                    refusesAtEveryLength(name, columns, x -> x.matched(place, j), 0);
                }
            }
            for (int j = 1; j <= columns; j++) {
                // With one letter, a match at column j has deletes before and behind it.
                ProfileHmm x = new ProfileHmm(columns);
                x.letter(3);
                due("matched(0, " + j + ") with L " + columns, x.matched(0, j), 1L);
            }
        }
    }

    // Promise 10: "0 if there is no such column."
    private static void deletedAtNoColumn() {
        for (int columns = 1; columns <= 4; columns++) {
            for (int j : outside(1, columns)) {
                refusesAtEveryLength("deleted(" + j + ")", columns, x -> x.deleted(j), 0);
            }
            for (int j = 1; j <= columns; j++) {
                long deleted = new ProfileHmm(columns).deleted(j);
                due("deleted(" + j + ") with L " + columns, deleted, 1L);
            }
        }
    }

    // Promise 11: "0 if there is no such place."
    private static void insertedAtNoPlace() {
        for (int length = 0; length <= 7; length++) {
            for (int i : outside(0, length - 1)) {
                for (int columns = 1; columns <= 4; columns++) {
                    refuses("inserted(" + i + ")", columns, length, x -> x.inserted(i), 0);
                }
            }
            for (int i = 0; i < length; i++) {
                // Without matches the one delete stands before, between or behind the inserts.
                ProfileHmm x = new ProfileHmm(1);
                for (int k = 0; k < length; k++) {
                    x.letter(0);
                }
                x.like(1, 0, 0);
                due("inserted(" + i + ") of " + length, x.inserted(i), length + 1L);
            }
        }
    }

    // Promise 14: "NONE if it has no such step." All scores are alike at first, so the first way
    // has as many matches as can be; without likings a match is worse than an insert and a delete.
    private static void bestStepThatIsNone() {
        for (int columns = 1; columns <= 4; columns++) {
            for (int length = 0; length <= 7; length++) {
                ProfileHmm x = new ProfileHmm(columns);
                for (int i = 0; i < length; i++) {
                    x.letter(i % 4);
                }
                bestHasSteps(x, Math.max(columns, length));
                for (int k = 0; k < 4 * columns; k++) {
                    x.like(1 + k / 4, k % 4, 0);
                }
                bestHasSteps(x, columns + length);
                for (int s : outside(0, stepsOfMarked(columns, length) - 1)) {
                    refuses("bestStep(" + s + ")", columns, length, y -> y.bestStep(s), NONE);
                }
            }
        }
    }

    // The best way of a marked object has as few steps as can be or, at these few, one more.
    private static int stepsOfMarked(int columns, int length) {
        boolean more = columns == 2 && length == 2
            || columns == 3 && (length == 3 || length == 4)
            || columns == 4 && length >= 3 && length <= 6;
        return Math.max(columns, length) + (more ? 1 : 0);
    }

    private static void bestHasSteps(ProfileHmm x, int steps) {
        String at = " with L " + x.columns() + ", n " + x.length();
        for (int s = 0; s < steps; s++) {
            due("bestStep(" + s + ") is none" + at, x.bestStep(s) == NONE, false);
        }
        for (int s : outside(0, steps - 1)) {
            due("bestStep(" + s + ")" + at, x.bestStep(s), NONE);
        }
    }

    // Promise 15: "NONE if there is no such way.": a way has no fewer steps than columns or letters
    // and no more than both together.
    private static void bestOfNoWay() {
        for (int columns = 1; columns <= 4; columns++) {
            for (int length = 0; length <= 7; length++) {
                int fewest = Math.max(columns, length);
                int most = columns + length;
                for (int s : outside(fewest, most)) {
                    refuses("bestOf(" + s + ")", columns, length, x -> x.bestOf(s), NONE);
                }
                ProfileHmm x = marked(columns, length);
                for (int s = 0; s <= 12; s++) {
                    boolean none = s < fewest || s > most;
                    String at = " with L " + columns + ", n " + length;
                    due("bestOf(" + s + ") is none" + at, x.bestOf(s) == NONE, none);
                }
            }
        }
    }
}
