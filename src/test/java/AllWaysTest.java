import java.util.ArrayList;
import java.util.List;

// Compares every answer with that of a model that lists all ways one by one, over fixed runs of
// calls whose arguments are now and then wrong.
public final class AllWaysTest {
    private static final int RUNS = 120;
    private static final int CALLS = 512;
    private static final int[] WRONG = {
        Integer.MIN_VALUE, -1000, -5, -1, 0, 3, 4, 5, 7, 8, 10, 11, 12, 13, 1000, 1 << 30,
        Integer.MAX_VALUE};

    private static int wrong = 0;
    private static long state = 20261115;

    // A fixed sequence of numbers, so that every run of the test makes the same calls.
    private static int pick(int below) {
        state = state * 6364136223846793005L + 1442695040888963407L;
        return (int) ((state >>> 33) % below);
    }

    // Mostly from low to high, else anything.
    private static int argument(int low, int high) {
        return pick(12) == 0 ? WRONG[pick(WRONG.length)] : low + pick(high - low + 1);
    }

    private static void due(String call, long got, long want) {
        if (got != want) {
            wrong++;
            if (wrong <= 40) {
                System.out.println(call + " answered " + got + ", due is " + want);
            }
        }
    }

    public static void main(String[] args) {
        for (int run = 0; run < RUNS; run++) {
            int columns = run % 10 == 9 ? WRONG[pick(WRONG.length)] : 1 + run % 4;
            oneRun("run " + run + ": ", columns, run % 3);
        }
        System.out.println(wrong == 0 ? "all answers are as due" : wrong + " answers are not as due");
        if (wrong != 0) {
            System.exit(1);
        }
    }

    private static void oneRun(String name, int columns, int style) {
        ProfileHmm x = new ProfileHmm(columns);
        Model model = new Model(columns);
        for (int call = 0; call < CALLS; call++) {
            String at = name + "call " + call + ", ";
            if (pick(3) == 0) {
                change(at, x, model, style);
            } else {
                ask(at, x, model);
            }
        }
    }

    // Style 1 keeps to small values, so that scores tie; style 2 to 0 and 9.
    private static int value(int style) {
        if (style == 0) {
            return argument(0, 9);
        }
        return style == 1 ? argument(0, 2) : 9 * pick(2);
    }

    private static void change(String at, ProfileHmm x, Model model, int style) {
        int kind = pick(16);
        if (kind < 5) {
            int j = argument(1, model.columns);
            int a = argument(0, 3);
            int v = value(style);
            due(at + "like(" + j + ", " + a + ", " + v + ")", x.like(j, a, v), model.like(j, a, v));
        } else if (kind < 10) {
            int p = argument(0, 2);
            int q = argument(0, 2);
            int v = value(style);
            due(at + "pass(" + p + ", " + q + ", " + v + ")", x.pass(p, q, v), model.pass(p, q, v));
        } else if (kind < 15) {
            int a = argument(0, 3);
            due(at + "letter(" + a + ")", x.letter(a), model.letter(a));
        } else if (pick(3) == 0) {
            x.clear();
            model.word.clear();
        }
    }

    private static void ask(String at, ProfileHmm x, Model model) {
        int i = argument(0, 7);
        int j = argument(1, 4);
        int s = argument(0, 12);
        switch (pick(13)) {
            case 0 -> due(at + "columns()", x.columns(), model.columns);
            case 1 -> due(at + "length()", x.length(), model.word.size());
            case 2 -> due(at + "sum()", x.sum(), model.sum(model.word));
            case 3 -> due(at + "matched(" + i + ", " + j + ")", x.matched(i, j), model.matched(i, j));
            case 4 -> due(at + "deleted(" + j + ")", x.deleted(j), model.deleted(j));
            case 5 -> due(at + "inserted(" + i + ")", x.inserted(i), model.inserted(i));
            case 6 -> due(at + "ways()", x.ways(), model.ways(model.word).size());
            case 7 -> due(at + "best()", x.best(), model.best());
            case 8 -> due(at + "bestStep(" + s + ")", x.bestStep(s), model.bestStep(s));
            case 9 -> due(at + "bestOf(" + s + ")", x.bestOf(s), model.bestOf(s));
            case 10 -> due(at + "ties()", x.ties(), model.ties());
            case 11 -> due(at + "worst()", x.worst(), model.worst());
            default -> due(at + "next()", x.next(), model.next());
        }
    }

    private static final class Model {
        final int columns;
        final List<Integer> word = new ArrayList<>();
        private final int[][] likings = new int[5][4];
        private final int[][] passages = new int[3][3];

        Model(int columns) {
            this.columns = Math.max(1, Math.min(4, columns));
            for (int[] row : likings) {
                java.util.Arrays.fill(row, 1);
            }
            for (int[] row : passages) {
                java.util.Arrays.fill(row, 1);
            }
        }

        private static boolean within(int low, int x, int high) {
            return low <= x && x <= high;
        }

        int like(int j, int a, int v) {
            if (!within(1, j, columns) || !within(0, a, 3) || !within(0, v, 9)) {
                return -1;
            }
            int was = likings[j][a];
            likings[j][a] = v;
            return was;
        }

        int pass(int p, int q, int v) {
            if (!within(0, p, 2) || !within(0, q, 2) || !within(0, v, 9)) {
                return -1;
            }
            int was = passages[p][q];
            passages[p][q] = v;
            return was;
        }

        int letter(int a) {
            if (!within(0, a, 3)) {
                return -1;
            }
            if (word.size() == 7) {
                return -2;
            }
            word.add(a);
            return word.size();
        }

        // All ways in the order of a dictionary.
        List<int[]> ways(List<Integer> letters) {
            List<int[]> found = new ArrayList<>();
            extend(new int[0], letters.size(), columns, found);
            return found;
        }

        private static void extend(int[] begun, int lettersLeft, int columnsLeft, List<int[]> found) {
            if (lettersLeft < 0 || columnsLeft < 0) {
                return;
            }
            if (lettersLeft == 0 && columnsLeft == 0) {
                found.add(begun);
                return;
            }
            for (int kind = 0; kind < 3; kind++) {
                int[] longer = java.util.Arrays.copyOf(begun, begun.length + 1);
                longer[begun.length] = kind;
                int reads = kind == 2 ? 0 : 1;
                int fills = kind == 1 ? 0 : 1;
                extend(longer, lettersLeft - reads, columnsLeft - fills, found);
            }
        }

        // All passages and likings that are factors of the steps of a way.
        private List<Integer> factors(int[] way, List<Integer> letters) {
            List<Integer> all = new ArrayList<>();
            int place = 0;
            int column = 1;
            for (int k = 0; k < way.length; k++) {
                all.add(passages[k == 0 ? 0 : way[k - 1]][way[k]]);
                if (way[k] == 0) {
                    all.add(likings[column][letters.get(place)]);
                }
                place += way[k] == 2 ? 0 : 1;
                column += way[k] == 1 ? 0 : 1;
            }
            return all;
        }

        private long weight(int[] way, List<Integer> letters) {
            long product = 1;
            for (int factor : factors(way, letters)) {
                product *= factor;
            }
            return product;
        }

        private int score(int[] way) {
            int total = 0;
            for (int factor : factors(way, word)) {
                total += factor;
            }
            return total;
        }

        // Whether the way has a step of this kind at the place and column; -1 stands for any.
        private static boolean has(int[] way, int kind, int atPlace, int atColumn) {
            int place = 0;
            int column = 1;
            for (int step : way) {
                boolean here = (atPlace == -1 || place == atPlace)
                    && (atColumn == -1 || column == atColumn);
                if (step == kind && here) {
                    return true;
                }
                place += step == 2 ? 0 : 1;
                column += step == 1 ? 0 : 1;
            }
            return false;
        }

        private long sumWith(int kind, int atPlace, int atColumn) {
            long total = 0;
            for (int[] way : ways(word)) {
                total += has(way, kind, atPlace, atColumn) ? weight(way, word) : 0;
            }
            return total;
        }

        long sum(List<Integer> letters) {
            long total = 0;
            for (int[] way : ways(letters)) {
                total += weight(way, letters);
            }
            return total;
        }

        long matched(int i, int j) {
            boolean none = !within(0, i, word.size() - 1) || !within(1, j, columns);
            return none ? 0 : sumWith(0, i, j);
        }

        long deleted(int j) {
            return within(1, j, columns) ? sumWith(2, -1, j) : 0;
        }

        long inserted(int i) {
            return within(0, i, word.size() - 1) ? sumWith(1, i, -1) : 0;
        }

        // The first way with the greatest score, since only a greater one takes its place.
        private int[] bestWay() {
            int[] first = null;
            for (int[] way : ways(word)) {
                if (first == null || score(way) > score(first)) {
                    first = way;
                }
            }
            return first;
        }

        int best() {
            return score(bestWay());
        }

        int bestStep(int s) {
            int[] way = bestWay();
            return within(0, s, way.length - 1) ? way[s] : -4;
        }

        int bestOf(int s) {
            int greatest = -4;
            for (int[] way : ways(word)) {
                if (way.length == s) {
                    greatest = Math.max(greatest, score(way));
                }
            }
            return greatest;
        }

        int ties() {
            int greatest = best();
            int count = 0;
            for (int[] way : ways(word)) {
                count += score(way) == greatest ? 1 : 0;
            }
            return count;
        }

        int worst() {
            int least = Integer.MAX_VALUE;
            for (int[] way : ways(word)) {
                least = Math.min(least, score(way));
            }
            return least;
        }

        long next() {
            long total = 0;
            for (int a = 0; a < 4; a++) {
                List<Integer> longer = new ArrayList<>(word);
                longer.add(a);
                total += sum(longer);
            }
            return total;
        }
    }
}
