import java.util.ArrayList;
import java.util.List;
import java.util.Map;
import java.util.TreeMap;
import java.util.TreeSet;

/**
 * Long runs of mixed calls, each answer held against a model that follows the document's words:
 * sets of numbers in place of bits, and every "would be" tried out in a copy.
 */
public final class ModelTest {
    private static final int RUNS = 30;
    // The document leaves free what an object answers after its 512th call, so each step is one call.
    private static final int CALLS = 512;
    private static final int KINDS = 18;
    private static int wrong = 0;
    // A generator of our own, so that every run of the tests makes the same calls.
    private static long seed = 20261115L;

    public static void main(String[] args) {
        for (int run = 0; run < RUNS && wrong == 0; run++) {
            oneRun(run);
        }
        System.out.println(wrong == 0 ? "all answers are as due" : wrong + " answers are not as due");
        if (wrong != 0) {
            System.exit(1);
        }
    }

    private static int below(int bound) {
        seed = seed * 6364136223846793005L + 1442695040888963407L;
        return (int) ((seed >>> 33) % bound);
    }

    private static int someNumber() {
        int pick = below(40);
        if (pick == 0) {
            return -1 - below(40);
        }
        if (pick == 1) {
            return 9 + below(60);
        }
        return below(9);
    }

    // Some runs draw from few worths, so that many sets tie.
    private static int someWorth(int spread) {
        return below(30) == 0 ? below(2) == 0 ? -51 - below(5) : 51 + below(5) : below(2 * spread + 1) - spread;
    }

    private static int someSet() {
        int pick = below(20);
        return pick == 0 ? -1 - below(600) : pick == 1 ? below(4096) : below(512);
    }

    private static void oneRun(int run) {
        ClosureDesk desk = new ClosureDesk();
        Model model = new Model();
        int spread = run % 3 == 0 ? 2 : run % 3 == 1 ? 12 : 50;
        List<String> calls = new ArrayList<>();
        for (int call = 0; call < CALLS; call++) {
            // The first calls fill the desk, else most runs would stay near empty.
            int kind = call < 6 ? 0 : below(KINDS);
            if (kind == 1 && below(3) != 0) {
                kind = 3;
            }
            int u = someNumber();
            int v = someNumber();
            int worth = someWorth(spread);
            int set = below(2) == 0 ? someSet() : model.closure(someSet());
            boolean on = below(5) < 3;
            calls.add("call " + kind + " with u=" + u + " v=" + v + " worth=" + worth + " set=" + set + " on=" + on);
            int got = ask(desk, kind, u, v, worth, set, on);
            int want = model.answer(kind, u, v, worth, set, on);
            if (got != want) {
                wrong++;
                System.out.println("run " + run + ":");
                calls.forEach(System.out::println);
                System.out.println("answered " + got + ", due is " + want);
                return;
            }
        }
    }

    private static int ask(ClosureDesk desk, int kind, int u, int v, int worth, int set, boolean on) {
        switch (kind) {
            case 0: return desk.add(worth);
            case 1: return desk.remove(u) ? 1 : 0;
            case 2: return desk.rate(u, worth) ? 1 : 0;
            case 3:
            case 4: return desk.need(u, v, on) ? 1 : 0;
            case 5: return desk.undertakings();
            case 6:
            case 7: return desk.closed(set) ? 1 : 0;
            case 8: return desk.closure(set);
            case 9: return desk.best();
            case 10: return desk.leastBest();
            case 11: return desk.greatestBest();
            case 12: return desk.bestWith(u);
            case 13: return desk.bestWithout(u);
            case 14: return desk.threshold(u);
            case 15:
            case 16: return desk.burden(u, v);
            default: return desk.choices();
        }
    }

    private static final class Model {
        private final TreeMap<Integer, Integer> worths = new TreeMap<>();
        private final TreeMap<Integer, TreeSet<Integer>> needs = new TreeMap<>();

        private Model copy() {
            Model other = new Model();
            other.worths.putAll(worths);
            for (Map.Entry<Integer, TreeSet<Integer>> entry : needs.entrySet()) {
                other.needs.put(entry.getKey(), new TreeSet<>(entry.getValue()));
            }
            return other;
        }

        private int answer(int kind, int u, int v, int worth, int set, boolean on) {
            switch (kind) {
                case 0: return add(worth);
                case 1: return remove(u);
                case 2: return rate(u, worth);
                case 3:
                case 4: return need(u, v, on);
                case 5: return bits(worths.keySet());
                case 6:
                case 7: return isClosed(set) ? 1 : 0;
                case 8: return closure(set);
                case 9: return best();
                case 10: return bestSets().stream().reduce(-1, (a, b) -> a & b);
                case 11: return bestSets().stream().reduce(0, (a, b) -> a | b);
                case 12: return worths.containsKey(u) ? bestOf(u, true) : -100000;
                case 13: return worths.containsKey(u) ? bestOf(u, false) : best();
                case 14: return threshold(u);
                case 15:
                case 16: return burden(u, v);
                default: return bestSets().size();
            }
        }

        private static boolean isWorth(int worth) {
            return -50 <= worth && worth <= 50;
        }

        private int add(int worth) {
            if (!isWorth(worth)) {
                return -1;
            }
            if (worths.size() == 9) {
                return -2;
            }
            int u = 0;
            while (worths.containsKey(u)) {
                u++;
            }
            worths.put(u, worth);
            needs.put(u, new TreeSet<>());
            return u;
        }

        private int remove(int u) {
            if (worths.remove(u) == null) {
                return 0;
            }
            needs.remove(u);
            needs.values().forEach(needed -> needed.remove(u));
            return 1;
        }

        private int rate(int u, int worth) {
            return isWorth(worth) && worths.replace(u, worth) != null ? 1 : 0;
        }

        private boolean isPair(int u, int v) {
            return u != v && worths.containsKey(u) && worths.containsKey(v);
        }

        private int need(int u, int v, boolean on) {
            if (!isPair(u, v)) {
                return 0;
            }
            if (on) {
                needs.get(u).add(v);
            } else {
                needs.get(u).remove(v);
            }
            return 1;
        }

        private static int bits(Iterable<Integer> members) {
            int set = 0;
            for (int u : members) {
                set += 1 << u;
            }
            return set;
        }

        private static TreeSet<Integer> membersOf(int set) {
            TreeSet<Integer> members = new TreeSet<>();
            for (int u = 0; u < 32; u++) {
                if ((set & 1 << u) != 0) {
                    members.add(u);
                }
            }
            return members;
        }

        private boolean isClosed(int set) {
            TreeSet<Integer> members = membersOf(set);
            return worths.keySet().containsAll(members)
                && members.stream().allMatch(u -> members.containsAll(needs.get(u)));
        }

        // The common part of closed sets is closed, so the least one is what they all share.
        private int closure(int set) {
            int wanted = set & bits(worths.keySet());
            return closedSets().stream().filter(s -> (s & wanted) == wanted).reduce(-1, (a, b) -> a & b);
        }

        private List<Integer> closedSets() {
            List<Integer> sets = new ArrayList<>();
            for (int set = 0; set < 512; set++) {
                if (isClosed(set)) {
                    sets.add(set);
                }
            }
            return sets;
        }

        private int worthOf(int set) {
            return membersOf(set).stream().mapToInt(worths::get).sum();
        }

        private int best() {
            return closedSets().stream().mapToInt(this::worthOf).max().getAsInt();
        }

        private List<Integer> bestSets() {
            TreeMap<Integer, List<Integer>> byWorth = new TreeMap<>();
            for (int set : closedSets()) {
                byWorth.computeIfAbsent(worthOf(set), worth -> new ArrayList<>()).add(set);
            }
            return byWorth.lastEntry().getValue();
        }

        private int bestOf(int u, boolean with) {
            return closedSets().stream().filter(set -> membersOf(set).contains(u) == with)
                .mapToInt(this::worthOf).max().getAsInt();
        }

        private int threshold(int u) {
            if (!worths.containsKey(u)) {
                return -100000;
            }
            Model tried = copy();
            for (int worth = -50; worth <= 50; worth++) {
                tried.worths.put(u, worth);
                if (tried.bestSets().stream().anyMatch(set -> (set & 1 << u) != 0)) {
                    return worth;
                }
            }
            return 51;
        }

        private int burden(int u, int v) {
            if (!isPair(u, v)) {
                return -100000;
            }
            Model freed = copy();
            freed.needs.get(u).remove(v);
            return freed.best() - best();
        }
    }
}
