import java.util.ArrayList;
import java.util.Comparator;
import java.util.List;
import java.util.TreeMap;

/**
 * Long runs of mixed calls against a second, unlike implementation: it sorts the pairs and keeps the
 * cursor as a position in the sorted list. The calls come from a fixed sequence, so each run is the same.
 */
public final class ModelRunsTest {
    private static final int RUNS = 300;
    private static final int CALLS = 512;
    private static final int[] ODD = {-1, 2, 8, 10, 12, 16, 24, 1001, Integer.MIN_VALUE, Integer.MAX_VALUE};

    private static int wrong = 0;
    private static long seed = 0;

    private record Entry(int key, int score) { }

    private record Pair(int l, int r, int value) {
        int code() {
            return 16 * l + r;
        }
    }

    private static final class Model {
        private final List<TreeMap<Integer, Entry>> lists = List.of(new TreeMap<>(), new TreeMap<>());
        private final int[] weights = {1, 1};
        private int cursor = 0;

        private boolean has(int list, int i) {
            return (list == 0 || list == 1) && lists.get(list).containsKey(i);
        }

        private List<Pair> ranking() {
            List<Pair> pairs = new ArrayList<>();
            lists.get(0).forEach((l, left) -> lists.get(1).forEach((r, right) -> {
                if (left.key() == right.key()) {
                    pairs.add(new Pair(l, r, weights[0] * left.score() + weights[1] * right.score()));
                }
            }));
            pairs.sort(Comparator.comparingInt(Pair::value).reversed()
                .thenComparingInt(Pair::l).thenComparingInt(Pair::r));
            return pairs;
        }

        int enter(int list, int key, int score) {
            if (list < 0 || list > 1 || key < 0 || key > 7 || score < 0 || score > 1000) {
                return -1;
            }
            if (lists.get(list).size() == 12) {
                return -2;
            }
            int i = 0;
            while (has(list, i)) {
                i++;
            }
            lists.get(list).put(i, new Entry(key, score));
            cursor = 0;
            return i;
        }

        int remove(int list, int i) {
            if (!has(list, i)) {
                return 0;
            }
            lists.get(list).remove(i);
            cursor = 0;
            return 1;
        }

        int rescore(int list, int i, int score) {
            if (!has(list, i) || score < 0 || score > 1000) {
                return 0;
            }
            lists.get(list).put(i, new Entry(lists.get(list).get(i).key(), score));
            cursor = 0;
            return 1;
        }

        int weigh(int list, int w) {
            if (list < 0 || list > 1 || w < 0 || w > 9) {
                return 0;
            }
            weights[list] = w;
            cursor = 0;
            return 1;
        }

        int entries(int list) {
            return list < 0 || list > 1 ? 0 : lists.get(list).keySet().stream().mapToInt(i -> 1 << i).sum();
        }

        int score(int list, int i) {
            return has(list, i) ? lists.get(list).get(i).score() : -1;
        }

        int next() {
            List<Pair> ranking = ranking();
            return cursor < ranking.size() ? ranking.get(cursor++).code() : -1;
        }

        int lastValue() {
            return cursor == 0 ? -1 : ranking().get(cursor - 1).value();
        }

        int pairAt(int k) {
            List<Pair> ranking = ranking();
            return k >= 0 && k < ranking.size() ? ranking.get(k).code() : -1;
        }

        int atLeast(int v) {
            return (int) ranking().stream().filter(pair -> pair.value() >= v).count();
        }

        int bestPlace(int list, int i) {
            List<Pair> ranking = ranking();
            for (int k = 0; k < ranking.size(); k++) {
                if (list == 0 && ranking.get(k).l() == i || list == 1 && ranking.get(k).r() == i) {
                    return k;
                }
            }
            return -1;
        }
    }

    /** The high bits of a linear congruential sequence: the low ones repeat too soon. */
    private static int below(int bound) {
        seed = seed * 6364136223846793005L + 1442695040888963407L;
        return (int) ((seed >>> 33) % bound);
    }

    private static int mostly(int bound) {
        return below(40) == 0 ? ODD[below(ODD.length)] : below(bound);
    }

    private static void due(int run, String call, int got, int want) {
        if (got != want) {
            wrong++;
            System.out.println("run " + run + ": " + call + " answered " + got + ", due is " + want);
        }
    }

    private static int bit(boolean answer) {
        return answer ? 1 : 0;
    }

    /** Runs differ in how many keys, scores and weights they use: few make ties and many pairs. */
    private static void run(int run) {
        BestPairs x = new BestPairs();
        Model m = new Model();
        int keys = 1 + run % 8;
        int scores = run % 3 == 0 ? 3 : run % 3 == 1 ? 30 : 1001;
        int changes = run % 4 == 0 ? 6 : 2;
        for (int n = 0; n < CALLS; n++) {
            if (n < 20 || below(12) < changes) {
                change(run, x, m, keys, scores);
            } else {
                ask(run, x, m, scores);
            }
        }
    }

    private static void change(int run, BestPairs x, Model m, int keys, int scores) {
        int list = mostly(2);
        int i = mostly(12);
        int key = mostly(keys);
        int score = mostly(scores);
        int w = mostly(10);
        switch (below(9)) {
            case 0 -> due(run, "remove(" + list + ", " + i + ")", bit(x.remove(list, i)), m.remove(list, i));
            case 1 -> due(run, "rescore(" + list + ", " + i + ", " + score + ")",
                bit(x.rescore(list, i, score)), m.rescore(list, i, score));
            case 2 -> due(run, "weigh(" + list + ", " + w + ")", bit(x.weigh(list, w)), m.weigh(list, w));
            default -> due(run, "enter(" + list + ", " + key + ", " + score + ")",
                x.enter(list, key, score), m.enter(list, key, score));
        }
    }

    private static void ask(int run, BestPairs x, Model m, int scores) {
        int list = mostly(2);
        int i = mostly(12);
        int k = mostly(below(2) == 0 ? 12 : 145);
        int v = mostly(scores * 4);
        switch (below(14)) {
            case 0 -> due(run, "entries(" + list + ")", x.entries(list), m.entries(list));
            case 1 -> due(run, "score(" + list + ", " + i + ")", x.score(list, i), m.score(list, i));
            case 2 -> due(run, "passed()", x.passed(), m.cursor);
            case 3 -> due(run, "lastValue()", x.lastValue(), m.lastValue());
            case 4 -> due(run, "pairAt(" + k + ")", x.pairAt(k), m.pairAt(k));
            case 5 -> due(run, "pairs()", x.pairs(), m.ranking().size());
            case 6 -> due(run, "atLeast(" + v + ")", x.atLeast(v), m.atLeast(v));
            case 7 -> due(run, "bestPlace(" + list + ", " + i + ")", x.bestPlace(list, i), m.bestPlace(list, i));
            case 8 -> {
                if (below(6) == 0) {
                    x.rewind();
                    m.cursor = 0;
                }
            }
            default -> due(run, "next()", x.next(), m.next());
        }
    }

    public static void main(String[] args) {
        for (int run = 0; run < RUNS; run++) {
            run(run);
        }
        System.out.println(wrong == 0 ? "all answers are as due" : wrong + " answers are not as due");
        if (wrong != 0) {
            System.exit(1);
        }
    }
}
