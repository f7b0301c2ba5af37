import java.util.ArrayList;
import java.util.Arrays;
import java.util.List;

// Long runs of calls, made from fixed numbers, against a plain second program that finds each need
// by trying every way in which both players can choose one edge at each vertex.
public final class EnergyGameSearch {
    private static final int RUNS = 600;
    // The document promises nothing after the 512th call.
    private static final int CALLS = 512;
    private static final int HOPELESS = -2;
    private static final int ENDLESS = Integer.MAX_VALUE;

    private static int wrong = 0;
    private static long seed = 0;

    private int n;
    private int[] owner;
    private List<int[]> edges = new ArrayList<>();

    private EnergyGameSearch(int asked) {
        n = Math.max(2, Math.min(6, asked));
        owner = new int[n];
    }

    public static void main(String[] args) {
        for (int run = 0; run < RUNS && wrong < 20; run++) {
            oneRun(run);
        }
        System.out.println(wrong == 0 ? "all answers are as due" : wrong + " answers are not as due");
        if (wrong != 0) {
            System.exit(1);
        }
    }

    private static int pick(int low, int high) {
        seed = seed * 6364136223846793005L + 1442695040888963407L;
        return low + (int) ((seed >>> 33) % (high - low + 1));
    }

    // Mostly good, at times just outside, seldom far outside.
    private static int pickAround(int low, int high) {
        int kind = pick(0, 39);
        if (kind == 0) {
            return pick(0, 1) == 0 ? Integer.MIN_VALUE : Integer.MAX_VALUE;
        }
        return kind < 4 ? pick(low - 1, high + 1) : pick(low, high);
    }

    private static void oneRun(int run) {
        seed = run;
        int asked = pick(0, 9) == 0 ? pickAround(1, 7) : pick(2, 6);
        EnergyGame game = new EnergyGame(asked);
        EnergyGameSearch model = new EnergyGameSearch(asked);
        // Some runs stay poor in edges and some in gains, so that not all is hopeless or all is safe.
        int linkWeight = pick(2, 10);
        int gainShift = pick(-2, 4);
        for (int call = 0; call < CALLS && wrong < 20; call++) {
            if (call < 12 || pick(0, 3) == 0) {
                changeBoth(run, game, model, linkWeight, gainShift);
            } else {
                askBoth(run, game, model);
            }
        }
    }

    private static void changeBoth(int run, EnergyGame game, EnergyGameSearch model, int linkWeight, int shift) {
        int kind = pick(0, linkWeight + 5);
        int v = pickAround(0, model.n - 1);
        int edge = pickAround(0, Math.max(0, model.edges.size() - 1));
        int inner = Math.max(-6, Math.min(6, pick(-6, 6) + shift));
        int gain = pick(0, 15) == 0 ? pickAround(-6, 6) : inner;
        if (kind < 2) {
            int player = pickAround(0, 1);
            due(run, "give(" + v + ", " + player + ")", game.give(v, player), model.give(v, player));
        } else if (kind == 2) {
            due(run, "cut(" + edge + ")", game.cut(edge), model.cut(edge));
        } else if (kind < 5) {
            due(run, "set(" + edge + ", " + gain + ")", game.set(edge, gain), model.set(edge, gain));
        } else {
            int u = pickAround(0, model.n - 1);
            due(run, "link(" + u + ", " + v + ", " + gain + ")", game.link(u, v, gain), model.link(u, v, gain));
        }
    }

    private static void askBoth(int run, EnergyGame game, EnergyGameSearch model) {
        int v = pickAround(0, model.n - 1);
        int edge = pickAround(0, Math.max(0, model.edges.size() - 1));
        int player = pickAround(0, 1);
        int credit = pickAround(-1, 31);
        int play = pick(0, 9) == 0 ? pickAround(0, 128 * 32) : 128 * pick(0, 30) + pick(0, 100);
        switch (pick(0, 10)) {
            case 0 -> due(run, "vertices()", game.vertices(), model.n);
            case 1 -> due(run, "edges()", game.edges(), model.edges.size());
            case 2 -> due(run, "need(" + v + ")", game.need(v), model.need(v));
            case 3 -> due(run, "safe(" + credit + ")", game.safe(credit), model.safe(credit));
            case 4 -> due(run, "hopeless()", game.hopeless(), model.hopeless());
            case 5 -> due(run, "choice(" + v + ")", game.choice(v), model.choice(v));
            case 6 -> due(run, "choices(" + v + ")", game.choices(v), model.choices(v));
            case 7 -> due(run, "needWithout(" + v + ", " + edge + ")", game.needWithout(v, edge), model.needWithout(v, edge));
            case 8 -> due(run, "needOf(" + v + ", " + player + ")", game.needOf(v, player), model.needOf(v, player));
            case 9 -> due(run, "greatest()", game.greatest(), model.greatest());
            default -> due(run, "store(" + v + ", " + play + ")", game.store(v, play), model.store(v, play));
        }
    }

    private static void due(int run, String call, int got, int want) {
        if (got != want) {
            wrong++;
            System.out.println("run " + run + ": " + call + " answered " + got + ", due is " + want);
        }
    }

    // From here on: the second program.

    private boolean hasVertex(int v) {
        return 0 <= v && v < n;
    }

    private boolean hasEdge(int edge) {
        return 0 <= edge && edge < edges.size();
    }

    private int give(int v, int player) {
        if (!hasVertex(v)) return -1;
        if (player < 0 || player > 1) return -2;
        int before = owner[v];
        owner[v] = player;
        return before;
    }

    private int link(int u, int v, int gain) {
        if (!hasVertex(u) || !hasVertex(v)) return -1;
        if (gain < -6 || gain > 6) return -2;
        if (edges.size() == 14) return -3;
        if (edgesFrom(u).size() == 3) return -4;
        edges.add(new int[] {u, v, gain});
        return edges.size() - 1;
    }

    private int cut(int edge) {
        if (!hasEdge(edge)) return -1;
        edges.remove(edge);
        return edges.size();
    }

    private int set(int edge, int gain) {
        if (!hasEdge(edge)) return -1;
        if (gain < -6 || gain > 6) return -2;
        int before = edges.get(edge)[2];
        edges.get(edge)[2] = gain;
        return before;
    }

    private List<List<Integer>> edgesFromEach() {
        List<List<Integer>> all = new ArrayList<>();
        for (int v = 0; v < n; v++) {
            all.add(edgesFrom(v));
        }
        return all;
    }

    private List<Integer> edgesFrom(int v) {
        List<Integer> found = new ArrayList<>();
        for (int e = 0; e < edges.size(); e++) {
            if (edges.get(e)[0] == v) found.add(e);
        }
        return found;
    }

    // The least, over the keeper's ways to choose, of the greatest, over the other's ways, of what
    // the one play that is left asks for.
    private int[] needs() {
        int[] least = new int[n];
        Arrays.fill(least, ENDLESS);
        List<List<Integer>> from = edgesFromEach();
        int[] chosen = new int[n];
        startChoosing(chosen, 0);
        boolean moreOfKeeper = true;
        while (moreOfKeeper) {
            int[] greatest = new int[n];
            startChoosing(chosen, 1);
            boolean moreOfOther = true;
            while (moreOfOther) {
                for (int v = 0; v < n; v++) {
                    greatest[v] = Math.max(greatest[v], askedByPlay(v, chosen, from));
                }
                moreOfOther = chooseNext(chosen, 1, from);
            }
            for (int v = 0; v < n; v++) {
                least[v] = Math.min(least[v], greatest[v]);
            }
            moreOfKeeper = chooseNext(chosen, 0, from);
        }
        for (int v = 0; v < n; v++) {
            if (least[v] == ENDLESS) least[v] = HOPELESS;
        }
        return least;
    }

    private void startChoosing(int[] chosen, int player) {
        for (int v = 0; v < n; v++) {
            if (owner[v] == player) chosen[v] = 0;
        }
    }

    private boolean chooseNext(int[] chosen, int player, List<List<Integer>> from) {
        for (int v = 0; v < n; v++) {
            if (owner[v] == player) {
                chosen[v]++;
                if (chosen[v] < from.get(v).size()) return true;
                chosen[v] = 0;
            }
        }
        return false;
    }

    private int askedByPlay(int v, int[] chosen, List<List<Integer>> from) {
        int[] sumAt = new int[n];
        boolean[] seen = new boolean[n];
        int at = v;
        int sum = 0;
        int lowest = 0;
        while (!seen[at]) {
            seen[at] = true;
            sumAt[at] = sum;
            if (from.get(at).isEmpty()) return -lowest;
            int[] edge = edges.get(from.get(at).get(chosen[at]));
            sum += edge[2];
            lowest = Math.min(lowest, sum);
            at = edge[1];
        }
        return sum < sumAt[at] ? ENDLESS : -lowest;
    }

    private int need(int v) {
        return hasVertex(v) ? needs()[v] : -1;
    }

    private int safe(int credit) {
        int[] needs = needs();
        int sum = 0;
        for (int v = 0; v < n; v++) {
            if (needs[v] != HOPELESS && needs[v] <= credit) sum += (int) Math.pow(2, v);
        }
        return sum;
    }

    private int hopeless() {
        return (int) Arrays.stream(needs()).filter(x -> x == HOPELESS).count();
    }

    private List<Integer> goodEdges(int v) {
        int[] needs = needs();
        List<Integer> good = new ArrayList<>();
        for (int e : edgesFrom(v)) {
            int end = needs[edges.get(e)[1]];
            boolean isGood;
            if (needs[v] == HOPELESS) {
                isGood = owner[v] == 1 && end == HOPELESS;
            } else {
                isGood = end != HOPELESS && Math.max(0, end - edges.get(e)[2]) == needs[v];
                if (owner[v] == 1 && end == HOPELESS) {
                    throw new IllegalStateException("the other player's vertex should be hopeless");
                }
            }
            if (isGood) good.add(e);
        }
        return good;
    }

    private int choice(int v) {
        if (!hasVertex(v)) return -1;
        List<Integer> good = goodEdges(v);
        return good.isEmpty() ? -2 : good.get(0);
    }

    private int choices(int v) {
        return hasVertex(v) ? goodEdges(v).size() : -1;
    }

    private int needWithout(int v, int edge) {
        if (!hasVertex(v)) return -1;
        if (!hasEdge(edge)) return -3;
        EnergyGameSearch copy = new EnergyGameSearch(n);
        copy.owner = owner.clone();
        copy.edges = new ArrayList<>(edges);
        copy.edges.remove(edge);
        return copy.need(v);
    }

    private int needOf(int v, int player) {
        if (!hasVertex(v)) return -1;
        if (player < 0 || player > 1) return -3;
        EnergyGameSearch copy = new EnergyGameSearch(n);
        copy.owner = owner.clone();
        copy.owner[v] = player;
        copy.edges = edges;
        return copy.need(v);
    }

    private int greatest() {
        return Math.max(0, Arrays.stream(needs()).max().getAsInt());
    }

    private int store(int v, int play) {
        if (!hasVertex(v)) return -1000;
        int steps = Math.floorDiv(play, 128);
        int credit = Math.floorMod(play, 128);
        if (steps < 0 || steps > 30 || credit > 100) return -2000;
        int[] choiceAt = new int[n];
        for (int u = 0; u < n; u++) {
            choiceAt[u] = choice(u);
        }
        int at = v;
        int sum = credit;
        for (int i = 0; i < steps && choiceAt[at] >= 0; i++) {
            int[] edge = edges.get(choiceAt[at]);
            sum += edge[2];
            at = edge[1];
        }
        return sum;
    }
}
