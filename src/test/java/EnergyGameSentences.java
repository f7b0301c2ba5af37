import java.util.ArrayList;
import java.util.Arrays;
import java.util.List;
import java.util.function.Consumer;
import java.util.function.Supplier;

// The document sentence by sentence: each one that names a boundary case has a test of its own here,
// which bears the sentence's words. The answers that are due were worked out from those words; only
// where a call must change nothing is the object compared with a twin that was not called.
public final class EnergyGameSentences {
    private static final int LEAST = Integer.MIN_VALUE;
    private static final int MOST = Integer.MAX_VALUE;

    private static int wrong = 0;
    private static String sentence = "";

    private static void due(String call, int got, int want) {
        if (got != want) {
            wrong++;
            System.out.println("\"" + sentence + "\": " + call + " answered " + got + ", due is " + want);
        }
    }

    private static void says(String words) {
        sentence = words;
    }

    public static void main(String[] args) {
        atMost512Calls();
        termsOfTheGraph();
        termsOfThePlay();
        termsOfTheNeed();
        termsOfGoodEdges();
        noQuestionChangesAnything();
        aRefusedCallChangesNothing();
        testsInTheOrderNamed();
        goodVertices();
        goodEdges();
        promises1And2();
        promise3();
        promise4();
        promise5();
        promises6And7();
        promises8To10();
        promises11And12();
        promise13();
        promise14();
        promise15();
        promise16();
        System.out.println(wrong == 0 ? "every sentence holds" : wrong + " answers are not as due");
        if (wrong != 0) {
            System.exit(1);
        }
    }

    // A game with these edges, each {from, to, gain}, whose first vertices belong to the owners named.
    private static EnergyGame game(int n, int[] owners, int[]... edges) {
        EnergyGame game = new EnergyGame(n);
        for (int v = 0; v < owners.length; v++) {
            game.give(v, owners[v]);
        }
        for (int[] edge : edges) {
            game.link(edge[0], edge[1], edge[2]);
        }
        return game;
    }

    private static int[] owners(int... players) {
        return players;
    }

    private static int[] edge(int from, int to, int gain) {
        return new int[] {from, to, gain};
    }

    private static int[] allOf(int n, int player) {
        int[] all = new int[n];
        Arrays.fill(all, player);
        return all;
    }

    // 0 -> 1 -> .. -> n-1, each with this gain, all of one player; n-1 has no edge from it.
    private static EnergyGame chain(int n, int player, int gain) {
        EnergyGame game = game(n, allOf(n, player));
        for (int v = 0; v + 1 < n; v++) {
            game.link(v, v + 1, gain);
        }
        return game;
    }

    // 0 -> 1 -> .. -> n-1 -> 0, all of one player; each edge without gain but the last.
    private static EnergyGame ring(int n, int player, int lastGain) {
        EnergyGame game = game(n, allOf(n, player));
        for (int v = 0; v < n; v++) {
            game.link(v, (v + 1) % n, v == n - 1 ? lastGain : 0);
        }
        return game;
    }

    // 14 edges; 0 .. 3 have three edges each; hopeless ones, ends and needs of all sizes.
    private static EnergyGame fullGame() {
        return game(6, owners(0, 1, 0, 1, 0, 1),
            edge(0, 1, -3), edge(0, 2, -5), edge(0, 3, 2),
            edge(1, 2, -2), edge(1, 4, 6), edge(1, 1, 0),
            edge(2, 5, -6), edge(2, 0, 1), edge(2, 4, -4),
            edge(3, 3, -1), edge(3, 0, 4), edge(3, 5, 5),
            edge(4, 5, -1), edge(4, 3, 3));
    }

    // 5 edges, three of them from 0.
    private static EnergyGame roomyGame() {
        return game(4, owners(0, 1),
            edge(0, 1, -2), edge(0, 2, -4), edge(0, 0, -6), edge(1, 3, -5), edge(1, 0, 3));
    }

    private static void atMost512Calls() {
        says("An object is used for at most 512 calls after it has been made");
        EnergyGame game = new EnergyGame(2);
        for (int call = 1; call <= 512; call += 2) {
            due("link as call " + call, game.link(0, 1, -6), 0);
            due("cut as call " + (call + 1), game.cut(0), 0);
        }
        EnergyGame full = new EnergyGame(6);
        for (int e = 0; e < 14; e++) {
            due("link as call " + (e + 1), full.link(e % 5, 5, 0), e);
        }
        for (int pair = 0; pair < 249; pair++) {
            due("cut as call " + (15 + 2 * pair), full.cut(0), 13);
            due("link as call " + (16 + 2 * pair), full.link(pair % 14 % 5, 5, 0), 13);
        }
        game = chain(2, 0, -6);
        for (int call = 4; call <= 511; call++) {
            due("need as call " + call, game.need(0), 6);
        }
        due("store as call 512", game.store(0, 128 + 7), 1);
    }

    private static void termsOfTheGraph() {
        says("each belongs to the KEEPER (0) or to the OTHER player (1); all belong to the keeper at first");
        for (int n = 2; n <= 6; n++) {
            EnergyGame game = new EnergyGame(n);
            for (int v = 0; v < n; v++) {
                due("first owner of " + v + " of " + n, game.give(v, 1), 0);
            }
        }

        says("There is a list of at most 14 EDGES, numbered 0, 1, 2, .. in their order");
        EnergyGame full = new EnergyGame(6);
        for (int e = 0; e < 14; e++) {
            due("link " + e, full.link(5 - e % 6, 0, 0), e);
        }
        due("the 15th", full.link(0, 0, 0), -3);
        due("edges", full.edges(), 14);
        for (int v = 0; v < 6; v++) {
            due("choice " + v, full.choice(v), 5 - v);
        }

        says("an edge leads from a vertex to a vertex (perhaps the same)");
        for (int player = 0; player <= 1; player++) {
            for (int v = 0; v < 6; v++) {
                EnergyGame loop = game(6, allOf(6, player));
                due("loop at " + v, loop.link(v, v, 0), 0);
                due("second loop at " + v, loop.link(v, v, 0), 1);
                due("need with loops", loop.need(v), 0);
                due("choices among loops", loop.choices(v), 2);
                loop.set(0, -1);
                loop.set(1, -1);
                due("need with losing loops", loop.need(v), -2);
            }
        }

        says("and has a GAIN -6 .. 6");
        for (int gain = -6; gain <= 6; gain++) {
            EnergyGame one = chain(2, 0, gain);
            due("edges with gain " + gain, one.edges(), 1);
            due("need with gain " + gain, one.need(0), gain < 0 ? -gain : 0);
        }
        due("need over the widest gap of gains", game(3, owners(), edge(0, 1, 6), edge(1, 2, -6)).need(0), 0);
        due("need over the same gap back", game(3, owners(), edge(0, 1, -6), edge(1, 2, 6)).need(0), 6);
    }

    private static void termsOfThePlay() {
        says("A PLAY begins at a vertex with a CREDIT, a whole number >= 0, in the store");
        for (int player = 0; player <= 1; player++) {
            EnergyGame rich = chain(6, player, 6);
            for (int v = 0; v < 6; v++) {
                due("need, not below 0, of " + v, rich.need(v), 0);
            }
            due("safe with credit -1", rich.safe(-1), 0);
            due("need before a gain and a loss",
                game(3, allOf(3, player), edge(0, 1, -1), edge(1, 2, 6)).need(0), 1);
        }

        says("its gain is added to the store, and the play goes on at its end");
        for (int gain = -6; gain <= 6; gain++) {
            due("one step with gain " + gain, chain(3, 0, gain).store(0, 128 + 20), 20 + gain);
            due("two steps with gain " + gain, chain(3, 0, gain).store(0, 256 + 20), 20 + 2 * gain);
        }

        says("A play that comes to a vertex without edges from it ends there");
        for (int player = 0; player <= 1; player++) {
            EnergyGame ends = chain(3, player, -2);
            due("need of the end", ends.need(2), 0);
            due("need before the end", ends.need(1), 2);
            due("choice at the end", ends.choice(2), -2);
            due("choices at the end", ends.choices(2), 0);
            due("store at the end", ends.store(2, 128 * 30 + 9), 9);
            due("store beyond the end", ends.store(0, 128 * 30 + 9), 5);
            due("hopeless ones", ends.hopeless(), 0);
        }

        says("The keeper wins if the store is never below 0");
        EnergyGame toZero = game(3, owners(), edge(0, 1, -3), edge(1, 2, 3));
        due("need that leaves 0", toZero.need(0), 3);
        due("store of 0 on the way", toZero.store(0, 128 + 3), 0);
        due("safe with one less", toZero.safe(2), 6);
        due("safe with just so much", toZero.safe(3), 7);
        due("gains that come too late", game(3, owners(), edge(0, 1, -3), edge(1, 2, 6)).need(0), 3);
        due("gains that come in time", game(3, owners(), edge(0, 1, 3), edge(1, 2, -6)).need(0), 3);
    }

    private static void termsOfTheNeed() {
        says("the least credit with which the keeper, whatever the other player chooses, can win from there");
        int[][] three = {edge(0, 1, -4), edge(0, 2, -6), edge(0, 3, -5)};
        due("keeper's least of three", game(4, owners(), three).need(0), 4);
        due("other's greatest of three", game(4, owners(1), three).need(0), 6);
        EnergyGame lateLoss = game(3, owners(0, 1), edge(0, 1, 5), edge(0, 2, -3), edge(1, 2, 6), edge(1, 1, -1));
        due("keeper passes by the gain that leads to the other's trap", lateLoss.need(0), 3);

        says("the vertex is HOPELESS if no credit suffices");
        for (int player = 0; player <= 1; player++) {
            for (int n = 2; n <= 6; n++) {
                due("ring of " + n + " that loses 1", ring(n, player, -1).hopeless(), n);
                due("need on a ring of " + n + " that loses 1", ring(n, player, -1).need(n - 1), -2);
                due("ring of " + n + " that loses 0", ring(n, player, 0).hopeless(), 0);
                due("ring of " + n + " that wins 1", ring(n, player, 1).need(0), 0);
            }
        }

        says("a need is never greater than 6 * (n - 1)");
        for (int player = 0; player <= 1; player++) {
            for (int n = 2; n <= 6; n++) {
                EnergyGame deep = chain(n, player, -6);
                due("need of 0 in a chain of " + n, deep.need(0), 6 * (n - 1));
                deep.link(n - 1, n - 1, 0);
                due("need before a loop that loses 0", deep.need(0), 6 * (n - 1));
                deep.set(n - 1, -1);
                due("need before a loop that loses 1", deep.need(0), -2);
                deep.set(n - 1, 1);
                due("need before a loop that wins 1", deep.need(0), 6 * (n - 1));
            }
        }
        // The ring goes down by 6 three times and up by 6 three times.
        EnergyGame dip = game(6, owners(), edge(0, 1, -6), edge(1, 2, -6), edge(2, 3, -6),
            edge(3, 4, 6), edge(4, 5, 6), edge(5, 0, 6));
        due("need before the dip", dip.need(0), 18);
        due("need of the one that is dipped to", dip.need(3), 0);
        dip.set(5, 5);
        due("the dip is not made good by 1", dip.hopeless(), 6);
    }

    private static void termsOfGoodEdges() {
        says("GOOD FOR the owner if: for the keeper, its end is not hopeless and the greater of 0 and "
            + "(the need of its end minus its gain) is the need of the vertex");
        // 1 is hopeless; 2 needs 4.
        EnergyGame keepers = game(4, owners(), edge(0, 1, 6), edge(0, 2, 1), edge(0, 3, -3),
            edge(1, 1, -1), edge(2, 3, -4));
        due("need", keepers.need(0), 3);
        due("choice, not the hopeless end", keepers.choice(0), 1);
        due("choices, both that ask for 3", keepers.choices(0), 2);
        keepers.set(1, 0);
        due("choice, not what asks for 1 more", keepers.choice(0), 2);
        due("choices without what asks for 1 more", keepers.choices(0), 1);
        keepers.set(1, 6);
        keepers.set(2, 0);
        due("choices, -2 and 0 both count as 0", keepers.choices(0), 2);
        keepers.set(0, 6);
        keepers.set(3, 0);
        due("choices when none is hopeless, all count as 0", keepers.choices(0), 3);

        says("for the other player, the same (its end is never hopeless then)");
        EnergyGame others = game(4, owners(1), edge(0, 1, -2), edge(0, 2, 1), edge(0, 3, -3), edge(2, 3, -4));
        due("need", others.need(0), 3);
        due("choice, not what asks for 1 less", others.choice(0), 1);
        due("choices, both that ask for 3", others.choices(0), 2);
        others.set(0, -4);
        due("choice, what asks for most", others.choice(0), 0);
        due("choices, what asks for most alone", others.choices(0), 1);
        others.set(0, 6);
        others.set(1, 4);
        others.set(2, 0);
        due("choices, all count as 0", others.choices(0), 3);

        says("An edge from a hopeless vertex is good for the keeper never, "
            + "and for the other player if its end is hopeless");
        EnergyGame lost = game(4, owners(0, 1), edge(0, 1, 6), edge(0, 0, -1),
            edge(1, 3, -6), edge(1, 1, 6), edge(1, 2, 6), edge(2, 2, -1));
        due("hopeless ones", lost.hopeless(), 3);
        due("keeper's choice", lost.choice(0), -2);
        due("keeper's choices", lost.choices(0), 0);
        due("other's choice, not the end with a need", lost.choice(1), 3);
        due("other's choices", lost.choices(1), 2);
        lost.give(0, 1);
        due("the same edges as the other's", lost.choices(0), 2);
        due("choice among them", lost.choice(0), 0);
    }

    // The answers to every question, then what every edge and every vertex had, which only a change tells.
    private static List<Integer> answers(EnergyGame game) {
        List<Integer> all = new ArrayList<>();
        int n = game.vertices();
        int count = game.edges();
        all.add(n);
        all.add(count);
        all.add(game.hopeless());
        all.add(game.greatest());
        for (int credit = -1; credit <= 31; credit++) {
            all.add(game.safe(credit));
        }
        for (int v = 0; v < n; v++) {
            all.add(game.need(v));
            all.add(game.choice(v));
            all.add(game.choices(v));
            all.add(game.needOf(v, 0));
            all.add(game.needOf(v, 1));
            all.add(game.store(v, 128 + 50));
            all.add(game.store(v, 128 * 30 + 50));
            for (int e = 0; e < count; e++) {
                all.add(game.needWithout(v, e));
            }
        }
        for (int e = 0; e < count; e++) {
            all.add(game.set(e, 0));
        }
        for (int v = 0; v < n; v++) {
            all.add(game.give(v, 0));
        }
        // Now all edges are good, so the choices tell where each of them begins.
        for (int left = count; left > 0; left--) {
            for (int v = 0; v < n; v++) {
                all.add(game.choices(v));
            }
            all.add(game.cut(0));
        }
        return all;
    }

    private static void changesNothing(String call, Supplier<EnergyGame> maker, Consumer<EnergyGame> calling) {
        EnergyGame called = maker.get();
        calling.accept(called);
        List<Integer> got = answers(called);
        List<Integer> want = answers(maker.get());
        due("the number of answers after " + call, got.size(), want.size());
        for (int i = 0; i < Math.min(got.size(), want.size()); i++) {
            due("answer " + i + " after " + call, got.get(i), want.get(i));
        }
    }

    private static void noQuestionChangesAnything() {
        says("No question changes anything");
        List<Supplier<EnergyGame>> makers = List.of(
            EnergyGameSentences::fullGame, EnergyGameSentences::roomyGame, () -> new EnergyGame(6));
        for (Supplier<EnergyGame> maker : makers) {
            changesNothing("vertices", maker, game -> game.vertices());
            changesNothing("edges", maker, game -> game.edges());
            changesNothing("hopeless", maker, game -> game.hopeless());
            changesNothing("greatest", maker, game -> game.greatest());
            changesNothing("safe", maker, game -> game.safe(5));
            int n = maker.get().vertices();
            int count = maker.get().edges();
            for (int at = 0; at < n; at++) {
                int v = at;
                changesNothing("need " + v, maker, game -> game.need(v));
                changesNothing("choice " + v, maker, game -> game.choice(v));
                changesNothing("choices " + v, maker, game -> game.choices(v));
                changesNothing("needOf " + v + " 0", maker, game -> game.needOf(v, 0));
                changesNothing("needOf " + v + " 1", maker, game -> game.needOf(v, 1));
                changesNothing("store " + v, maker, game -> game.store(v, 128 * 30 + 100));
                for (int number = 0; number < count; number++) {
                    int e = number;
                    changesNothing("needWithout " + v + " " + e, maker, game -> game.needWithout(v, e));
                }
            }
        }
        // One object asked the same again and again, with other questions between.
        EnergyGame game = fullGame();
        int first = game.need(0);
        for (int v = 0; v < 6; v++) {
            game.needOf(v, 0);
            due("need after needOf " + v + " 0", game.need(0), first);
            game.needOf(v, 1);
            due("need after needOf " + v + " 1", game.need(0), first);
        }
        for (int e = 0; e < 14; e++) {
            game.needWithout(0, e);
            due("need after needWithout " + e, game.need(0), first);
        }
    }

    private static void aRefusedCallChangesNothing() {
        says("A refused call changes nothing");
        Supplier<EnergyGame> full = EnergyGameSentences::fullGame;
        Supplier<EnergyGame> roomy = EnergyGameSentences::roomyGame;
        for (Supplier<EnergyGame> maker : List.of(full, roomy)) {
            int n = maker.get().vertices();
            int count = maker.get().edges();
            for (int bad : new int[] {LEAST, -1, n, MOST}) {
                changesNothing("give of vertex " + bad, maker, game -> game.give(bad, 1));
                changesNothing("link from " + bad, maker, game -> game.link(bad, 3, 1));
                changesNothing("link to " + bad, maker, game -> game.link(3, bad, 1));
                changesNothing("need of " + bad, maker, game -> game.need(bad));
                changesNothing("choice of " + bad, maker, game -> game.choice(bad));
                changesNothing("choices of " + bad, maker, game -> game.choices(bad));
                changesNothing("needWithout of vertex " + bad, maker, game -> game.needWithout(bad, 0));
                changesNothing("needOf of vertex " + bad, maker, game -> game.needOf(bad, 1));
                changesNothing("store of vertex " + bad, maker, game -> game.store(bad, 128));
            }
            for (int bad : new int[] {LEAST, -1, 2, MOST}) {
                changesNothing("give to " + bad, maker, game -> game.give(0, bad));
                changesNothing("needOf for " + bad, maker, game -> game.needOf(0, bad));
            }
            for (int bad : new int[] {LEAST, -7, 7, MOST}) {
                changesNothing("link with gain " + bad, maker, game -> game.link(3, 0, bad));
                changesNothing("set to " + bad, maker, game -> game.set(0, bad));
                changesNothing("set of the last to " + bad, maker, game -> game.set(count - 1, bad));
            }
            for (int bad : new int[] {LEAST, -1, count, MOST}) {
                changesNothing("cut of " + bad, maker, game -> game.cut(bad));
                changesNothing("set of edge " + bad, maker, game -> game.set(bad, 1));
                changesNothing("needWithout edge " + bad, maker, game -> game.needWithout(0, bad));
            }
            for (int bad : new int[] {LEAST, -1, 101, 128 * 31, MOST}) {
                changesNothing("store of play " + bad, maker, game -> game.store(0, bad));
            }
        }
        changesNothing("link into a full list", full, game -> game.link(5, 0, 1));
        changesNothing("link from a full vertex", roomy, game -> game.link(0, 3, 1));
        changesNothing("cut in an empty list", () -> new EnergyGame(3), game -> game.cut(0));
        changesNothing("set in an empty list", () -> new EnergyGame(3), game -> game.set(0, 0));
        EnergyGame empty = new EnergyGame(2);
        empty.cut(0);
        due("edges after cut in an empty list", empty.edges(), 0);
        due("link after cut in an empty list", empty.link(0, 1, 1), 0);
    }

    private static void testsInTheOrderNamed() {
        says("In every method the tests are made in the order named");
        EnergyGame full = fullGame();
        EnergyGame roomy = roomyGame();
        due("give: vertex, then player", full.give(6, 2), -1);
        due("link: u and gain", full.link(6, 0, 7), -1);
        due("link: v and gain", full.link(5, 6, 7), -1);
        due("link: u and a full list", full.link(-1, 0, 0), -1);
        due("link: v and a full list", full.link(5, -1, 0), -1);
        due("link: v and a full vertex", roomy.link(0, 4, 0), -1);
        due("link: all at once", full.link(0, 6, 7), -1);
        due("link: gain and a full list", full.link(5, 0, 7), -2);
        due("link: gain and a full vertex", roomy.link(0, 1, -7), -2);
        due("link: gain, a full list and a full vertex", full.link(0, 0, -7), -2);
        due("link: a full list and a full vertex", full.link(0, 0, 0), -3);
        due("set: edge, then gain", full.set(14, 7), -1);
        due("needWithout: vertex, then edge", full.needWithout(6, 14), -1);
        due("needOf: vertex, then player", full.needOf(6, 2), -1);
        due("store: vertex, then play", full.store(6, -1), -1000);
        due("store: vertex, then credit", full.store(-1, 101), -1000);
        due("store: vertex, then steps", full.store(6, 128 * 31), -1000);
    }

    private static void goodVertices() {
        says("a vertex is good if it is 0 .. n-1");
        for (int n = 2; n <= 6; n++) {
            EnergyGame game = chain(n, 0, 0);
            for (int bad : new int[] {LEAST, LEAST + 1, -2, -1, n, n + 1, 7, 32, 33, 256, 65536, MOST}) {
                String at = bad + " of " + n;
                due("give " + at, game.give(bad, 1), -1);
                due("link from " + at, game.link(bad, 0, 0), -1);
                due("link to " + at, game.link(0, bad, 0), -1);
                due("link in " + at, game.link(bad, bad, 0), -1);
                due("need " + at, game.need(bad), -1);
                due("choice " + at, game.choice(bad), -1);
                due("choices " + at, game.choices(bad), -1);
                due("needWithout " + at, game.needWithout(bad, 0), -1);
                due("needOf " + at, game.needOf(bad, 0), -1);
                due("store " + at, game.store(bad, 0), -1000);
            }
            for (int good = 0; good < n; good++) {
                String at = good + " of " + n;
                boolean last = good == n - 1;
                due("give " + at, game.give(good, 0), 0);
                due("need " + at, game.need(good), 0);
                due("choice " + at, game.choice(good), last ? -2 : good);
                due("choices " + at, game.choices(good), last ? 0 : 1);
                due("needWithout " + at, game.needWithout(good, 0), 0);
                due("needOf " + at, game.needOf(good, 1), 0);
                due("store " + at, game.store(good, 4), 4);
            }
            due("link from the last to the first of " + n, game.link(n - 1, 0, 0), n - 1);
        }
    }

    private static void goodEdges() {
        says("an edge if there is such an edge");
        EnergyGame game = new EnergyGame(6);
        for (int count = 0; count <= 14; count++) {
            for (int bad : new int[] {LEAST, -1, count, count + 1, 14, 15, MOST}) {
                String at = bad + " of " + count;
                due("cut " + at, game.cut(bad), -1);
                due("set " + at, game.set(bad, 0), -1);
                due("needWithout " + at, game.needWithout(0, bad), -3);
            }
            if (count < 14) {
                due("link", game.link(count / 3, 5, 0), count);
                due("set of the first", game.set(0, 0), 0);
                due("set of the last", game.set(count, 0), 0);
                due("needWithout the first", game.needWithout(0, 0), 0);
                due("needWithout the last", game.needWithout(0, count), 0);
            }
        }
        due("cut of the last", game.cut(13), 13);
        due("set of what was the last", game.set(13, 0), -1);
        due("needWithout what was the last", game.needWithout(0, 13), -3);
        due("cut of what was the last", game.cut(13), -1);
    }

    private static void promises1And2() {
        says("vertices is n: below 2 becomes 2");
        for (int asked : new int[] {LEAST, LEAST + 2, -6, -1, 0, 1, 2}) {
            due("vertices of new " + asked, new EnergyGame(asked).vertices(), 2);
            due("give 1 of new " + asked, new EnergyGame(asked).give(1, 0), 0);
            due("give 2 of new " + asked, new EnergyGame(asked).give(2, 0), -1);
        }

        says("above 6 becomes 6");
        for (int asked : new int[] {6, 7, 8, 256 + 2, 65536 + 2, MOST}) {
            due("vertices of new " + asked, new EnergyGame(asked).vertices(), 6);
            due("give 5 of new " + asked, new EnergyGame(asked).give(5, 0), 0);
            due("give 6 of new " + asked, new EnergyGame(asked).give(6, 0), -1);
        }

        says("No edges at first");
        for (int n = 2; n <= 6; n++) {
            EnergyGame game = new EnergyGame(n);
            due("edges", game.edges(), 0);
            due("cut", game.cut(0), -1);
            due("hopeless", game.hopeless(), 0);
            due("safe", game.safe(0), (1 << n) - 1);
            due("first link", game.link(0, 0, 0), 0);
        }

        says("int vertices(): n");
        for (int n = 2; n <= 6; n++) {
            EnergyGame game = ring(n, 1, -1);
            due("vertices of a ring", game.vertices(), n);
            due("cut", game.cut(0), n - 1);
            due("vertices of what is left", game.vertices(), n);
        }
    }

    private static void promise3() {
        says("-2 if player is not 0 or 1");
        for (int player : new int[] {LEAST, -2, -1, 2, 3, 256, MOST}) {
            due("give to " + player, new EnergyGame(3).give(0, player), -2);
        }

        says("otherwise answers the one before");
        EnergyGame game = new EnergyGame(3);
        for (int v = 0; v < 3; v++) {
            due("give to 0 what is 0's", game.give(v, 0), 0);
            due("give to 1 what is 0's", game.give(v, 1), 0);
            due("give to 1 what is 1's", game.give(v, 1), 1);
            due("give to 0 what is 1's", game.give(v, 0), 1);
            due("give to 0 again", game.give(v, 0), 0);
        }

        says("Gives a vertex to a player");
        EnergyGame two = game(3, owners(), edge(0, 1, -1), edge(0, 2, -4), edge(1, 2, -1), edge(1, 0, -6));
        due("need of the keeper's", two.need(0), 2);
        due("give", two.give(0, 1), 0);
        due("need of the other's", two.need(0), 4);
        due("the next stays the keeper's", two.need(1), 1);
    }

    private static void promise4() {
        says("Puts an edge at the end of the list");
        EnergyGame game = game(3, owners(), edge(0, 1, 0), edge(0, 1, 0));
        due("cut", game.cut(0), 1);
        due("link after a cut", game.link(0, 2, 5), 1);
        due("choice is the older one", game.choice(0), 0);
        due("gain of the newer one", game.set(1, 5), 5);

        says("-1 if u or v is not good");
        for (int bad : new int[] {LEAST, -1, 3, MOST}) {
            due("link from " + bad, game.link(bad, 0, 0), -1);
            due("link to " + bad, game.link(0, bad, 0), -1);
        }

        says("-2 if gain is not in -6 .. 6");
        for (int bad : new int[] {LEAST, -256, -8, -7, 7, 8, 250, MOST}) {
            due("link with gain " + bad, game.link(1, 0, bad), -2);
        }
        due("link with gain -6", game.link(1, 0, -6), 2);
        due("link with gain 6", game.link(1, 0, 6), 3);

        says("-3 if there are 14 edges");
        EnergyGame full = fullGame();
        due("link at 14", full.link(5, 5, 0), -3);
        due("cut", full.cut(6), 13);
        due("link at 13", full.link(5, 5, 0), 13);
        due("link at 14 again", full.link(5, 4, 0), -3);

        says("-4 if 3 edges lead from u");
        for (int u = 0; u < 3; u++) {
            EnergyGame from = new EnergyGame(3);
            due("first from " + u, from.link(u, (u + 1) % 3, 0), 0);
            due("second from " + u, from.link(u, u, 0), 1);
            due("third from " + u, from.link(u, u, 0), 2);
            due("fourth from " + u, from.link(u, (u + 1) % 3, 0), -4);
            due("one to " + u + " from elsewhere", from.link((u + 1) % 3, u, 0), 3);
            due("two to " + u + " from elsewhere", from.link((u + 1) % 3, u, 0), 4);
            due("four to " + u + " from elsewhere", from.link((u + 2) % 3, u, 0), 5);
            due("cut of one from " + u, from.cut(1), 5);
            due("third from " + u + " again", from.link(u, u, 0), 5);
            due("fourth from " + u + " again", from.link(u, u, 0), -4);
        }
    }

    private static void promise5() {
        says("Takes an edge out; later ones get numbers less by one");
        for (int out = 0; out < 14; out++) {
            // The gains -6, -5, .. tell the edges apart.
            EnergyGame game = new EnergyGame(6);
            for (int e = 0; e < 14; e++) {
                game.link(e % 6, (e + 1) % 6, e % 13 - 6);
            }
            due("cut " + out, game.cut(out), 13);
            for (int e = 0; e < 13; e++) {
                int was = e < out ? e : e + 1;
                due("gain of " + e + " without " + out, game.set(e, 0), was % 13 - 6);
            }
            for (int v = 0; v < 6; v++) {
                int first = v == out ? out + 6 : v;
                due("choice of " + v + " without " + out, game.choice(v), first < out ? first : first - 1);
            }
        }
        int[] starts = {3, 0, 4, 1, 2};
        for (int out = 0; out < 5; out++) {
            EnergyGame game = new EnergyGame(6);
            for (int v : starts) {
                game.link(v, v + 1, -v - 1);
            }
            due("cut " + out + " of the chain", game.cut(out), 4);
            for (int v = 0; v < 6; v++) {
                int end = v <= starts[out] ? starts[out] : 5;
                due("need of " + v + " without " + out, game.need(v), (end * (end + 1) - v * (v + 1)) / 2);
            }
        }

        says("-1 if edge is not good; otherwise answers how many are left");
        EnergyGame game = fullGame();
        for (int left = 13; left >= 0; left--) {
            due("cut of what is not there", game.cut(left + 1), -1);
            due("cut of the last", game.cut(left), left);
            due("edges", game.edges(), left);
        }
        due("cut in an empty list", game.cut(0), -1);
        game = fullGame();
        for (int left = 13; left >= 0; left--) {
            due("cut of the first", game.cut(0), left);
        }
        due("cut in an empty list", game.cut(0), -1);
        due("all are ends now", game.safe(0), 63);
    }

    private static void promises6And7() {
        says("Changes the gain of an edge ... otherwise answers the gain before");
        EnergyGame game = fullGame();
        int[] gains = {-3, -5, 2, -2, 6, 0, -6, 1, -4, -1, 4, 5, -1, 3};
        for (int e = 0; e < 14; e++) {
            due("set " + e + " to -6", game.set(e, -6), gains[e]);
            due("set " + e + " to 6", game.set(e, 6), -6);
            due("set " + e + " to 6 again", game.set(e, 6), 6);
        }
        due("need with 6 everywhere", game.greatest(), 0);

        says("set: -1 if edge is not good");
        for (int bad : new int[] {LEAST, -1, 14, MOST}) {
            due("set of " + bad, game.set(bad, 0), -1);
        }
        due("set in an empty list", new EnergyGame(2).set(0, 0), -1);

        says("set: -2 if gain is not in -6 .. 6");
        for (int bad : new int[] {LEAST, -256, -7, 7, 256, MOST}) {
            due("set to " + bad, game.set(13, bad), -2);
        }

        says("How many edges there are");
        EnergyGame counted = new EnergyGame(6);
        for (int e = 0; e < 14; e++) {
            due("edges", counted.edges(), e);
            counted.link(e / 3, 0, 0);
        }
        due("edges of a full list", counted.edges(), 14);
        counted.link(5, 0, 0);
        due("edges after one too many", counted.edges(), 14);
        counted.set(0, 3);
        due("edges after set", counted.edges(), 14);
    }

    private static void promises8To10() {
        says("need: -1 if v is not good; -2 if it is hopeless");
        EnergyGame game = game(3, owners(), edge(0, 0, -1), edge(1, 2, -6));
        due("need of a hopeless one", game.need(0), -2);
        due("need", game.need(1), 6);
        due("need of an end", game.need(2), 0);
        due("need of 3", game.need(3), -1);
        due("need of -1", game.need(-1), -1);

        says("the vertices that are not hopeless and whose need is at most credit (any int)");
        EnergyGame steps = chain(6, 0, -6);
        for (int credit = -40; credit <= 40; credit++) {
            int members = 0;
            for (int v = 0; v < 6; v++) {
                members += 6 * (5 - v) <= credit ? 1 << v : 0;
            }
            due("safe with " + credit, steps.safe(credit), members);
        }
        for (int credit : new int[] {LEAST, LEAST + 1, -65536, -2, -1}) {
            due("safe with " + credit, steps.safe(credit), 0);
            due("safe beside a hopeless one with " + credit, game.safe(credit), 0);
        }
        for (int credit : new int[] {30, 31, 32, 100, 65536, MOST - 1, MOST}) {
            due("safe with " + credit, steps.safe(credit), 63);
            due("safe beside a hopeless one with " + credit, game.safe(credit), 6);
            due("safe where all are hopeless with " + credit, ring(6, 0, -1).safe(credit), 0);
        }
        due("safe, no vertices beyond n", new EnergyGame(2).safe(MOST), 3);

        says("How many vertices are hopeless");
        due("none", new EnergyGame(6).hopeless(), 0);
        EnergyGame loops = new EnergyGame(6);
        for (int v = 0; v < 6; v++) {
            loops.link(v, v, -1);
            due("hopeless", loops.hopeless(), v + 1);
        }
        due("a need of 30 is not hopeless", chain(6, 1, -6).hopeless(), 0);
    }

    private static void promises11And12() {
        says("The least number of an edge from v that is good for its owner");
        for (int player = 0; player <= 1; player++) {
            EnergyGame equal = game(3, owners(player), edge(1, 2, 0), edge(0, 1, -1), edge(0, 2, -1), edge(0, 1, -1));
            due("choice of three", equal.choice(0), 1);
            equal.cut(0);
            due("choice after a cut before it", equal.choice(0), 0);
            equal.set(0, player == 0 ? -2 : 0);
            due("choice when the first is worse", equal.choice(0), 1);
        }

        says("choice: -1 if v is not good; -2 if there is none");
        EnergyGame game = game(3, owners(0, 1), edge(0, 0, -1), edge(0, 1, 6), edge(1, 0, 6));
        due("choice of 3", game.choice(3), -1);
        due("choice of -1", game.choice(-1), -1);
        due("choice without edges", game.choice(2), -2);
        due("choice past a losing loop", game.choice(0), 1);
        game.cut(2);
        game.link(1, 1, -1);
        due("choice of the keeper's hopeless one", game.choice(0), -2);
        due("choice of the other's hopeless one", game.choice(1), 2);

        says("How many edges from v are good for its owner; -1 if v is not good");
        due("choices of the keeper's hopeless one", game.choices(0), 0);
        due("choices of the other's hopeless one", game.choices(1), 1);
        due("choices without edges", game.choices(2), 0);
        due("choices of 3", game.choices(3), -1);
        due("choices of -1", game.choices(-1), -1);
        for (int player = 0; player <= 1; player++) {
            EnergyGame equal = game(2, owners(player), edge(0, 1, -1), edge(0, 1, -1), edge(0, 1, -1), edge(1, 1, 0));
            due("choices of three", equal.choices(0), 3);
            equal.set(1, player == 0 ? 0 : -2);
            due("choices when one is better", equal.choices(0), 1);
        }
    }

    private static void promise13() {
        says("The need that v would have without an edge");
        EnergyGame game = game(4, owners(0, 1), edge(0, 1, -1), edge(0, 3, -6),
            edge(1, 2, -2), edge(1, 3, -4), edge(2, 3, -3));
        due("as it is", game.need(0), 6);
        due("without the way to 1", game.needWithout(0, 0), 6);
        due("without the way to 3", game.needWithout(0, 1), 6);
        due("without the other's worst", game.needWithout(0, 2), 5);
        due("without the other's better", game.needWithout(0, 3), 6);
        due("without what lies further on", game.needWithout(0, 4), 5);
        due("what does not matter to 2", game.needWithout(2, 0), 3);
        due("without the only edge it is an end", game.needWithout(2, 4), 0);
        EnergyGame loop = game(2, owners(), edge(0, 0, -1));
        due("without the only edge, a losing one", loop.needWithout(0, 0), 0);
        due("of a vertex that has no edge", loop.needWithout(1, 0), 0);
        due("as it is after the question", loop.need(0), -2);

        says("needWithout: -1 if v is not good; -2 if it would be hopeless; -3 if edge is not good");
        EnergyGame way = game(2, owners(), edge(0, 0, -1), edge(0, 1, -6));
        due("with the way out", way.needWithout(0, 0), 6);
        due("without the way out", way.needWithout(0, 1), -2);
        for (int bad : new int[] {LEAST, -1, 2, MOST}) {
            due("of vertex " + bad, way.needWithout(bad, 0), -1);
            due("without edge " + bad, way.needWithout(1, bad), -3);
        }
        due("in an empty list", new EnergyGame(2).needWithout(0, 0), -3);

        says("needWithout: (Tests in the order -1, -3, -2.)");
        due("vertex and edge are bad", way.needWithout(2, 2), -1);
        due("vertex and edge are bad, below", way.needWithout(-1, -1), -1);
        way.cut(1);
        due("edge is bad and the vertex hopeless", way.needWithout(0, 1), -3);
        due("edge is below and the vertex hopeless", way.needWithout(0, -1), -3);
        due("all is good and the vertex not hopeless then", way.needWithout(0, 0), 0);
    }

    private static void promise14() {
        says("The need that v would have if it belonged to the player");
        EnergyGame game = game(3, owners(0, 1), edge(0, 1, -1), edge(0, 2, -4), edge(1, 0, -1), edge(1, 2, 0));
        due("0 as the keeper's, 1 as the other's", game.needOf(0, 0), 4);
        due("0 as the other's too", game.needOf(0, 1), -2);
        due("1 as the keeper's", game.needOf(1, 0), 0);
        due("1 as the other's", game.needOf(1, 1), 5);
        due("an end as the keeper's", game.needOf(2, 0), 0);
        due("an end as the other's", game.needOf(2, 1), 0);
        due("0 is still the keeper's", game.give(0, 0), 0);
        due("1 is still the other's", game.give(1, 1), 1);
        due("2 is still the keeper's", game.give(2, 0), 0);

        says("needOf: -1 if v is not good; -3 if player is not 0 or 1; -2 if it would be hopeless");
        for (int bad : new int[] {LEAST, -1, 3, MOST}) {
            due("of vertex " + bad, game.needOf(bad, 0), -1);
        }
        for (int bad : new int[] {LEAST, -2, -1, 2, 3, MOST}) {
            due("for player " + bad, game.needOf(2, bad), -3);
        }
        due("hopeless for one and not for the other", game.needOf(0, 1), -2);

        says("needOf: (Tests in the order -1, -3, -2.)");
        due("vertex and player are bad", game.needOf(3, 2), -1);
        due("vertex and player are bad, below", game.needOf(-1, -1), -1);
        EnergyGame lost = ring(2, 0, -1);
        due("player is bad and the vertex hopeless", lost.needOf(0, 2), -3);
        due("player is below and the vertex hopeless", lost.needOf(0, -1), -3);
        due("all is good and the vertex hopeless", lost.needOf(0, 0), -2);
    }

    private static void promise15() {
        says("The greatest need of a vertex that is not hopeless; 0 if there is none");
        for (int n = 2; n <= 6; n++) {
            due("new", new EnergyGame(n).greatest(), 0);
            due("all hopeless", ring(n, 0, -1).greatest(), 0);
            due("the greatest there is with " + n, chain(n, 1, -6).greatest(), 6 * (n - 1));
            due("all needs 0", chain(n, 0, 6).greatest(), 0);
        }
        for (int v = 0; v < 5; v++) {
            due("the need of " + v + " alone", game(6, owners(), edge(v, 5, -v - 1)).greatest(), v + 1);
        }
        due("the need of the last alone", game(6, owners(), edge(5, 0, -6)).greatest(), 6);
        due("beside hopeless ones", game(4, owners(), edge(0, 0, -1), edge(1, 3, -2), edge(2, 0, 6)).greatest(), 2);
    }

    private static void promise16() {
        says("The store after steps steps (0 .. 30) ... with this credit (0 .. 100) ... "
            + "-2000 if credit or steps is out of range. play is 128 * steps + credit");
        for (int play = -600; play <= 128 * 33; play++) {
            // A new object for each, as the object after 512 calls promises nothing.
            EnergyGame up = new EnergyGame(2);
            up.link(0, 0, 2);
            int steps = Math.floorDiv(play, 128);
            int credit = Math.floorMod(play, 128);
            boolean inRange = steps >= 0 && steps <= 30 && credit <= 100;
            due("store of play " + play, up.store(0, play), inRange ? credit + 2 * steps : -2000);
        }
        for (int play : new int[] {LEAST, LEAST + 100, LEAST + 128, -65536, 65536, 1 << 24, MOST - 127, MOST}) {
            due("store of play " + play, new EnergyGame(2).store(0, play), -2000);
        }

        says("-1000 if v is not good");
        for (int bad : new int[] {LEAST, -1, 2, MOST}) {
            due("store at " + bad, new EnergyGame(2).store(bad, 0), -1000);
        }

        says("in which both owners always choose by choice");
        // The keeper at 0 takes edge 1, the other player at 1 takes edge 3.
        EnergyGame both = game(3, owners(0, 1), edge(0, 2, -6), edge(0, 1, 1), edge(1, 2, 5), edge(1, 0, -1));
        due("keeper's choice", both.choice(0), 1);
        due("other's choice", both.choice(1), 3);
        for (int steps = 0; steps <= 30; steps++) {
            due("store after " + steps, both.store(0, 128 * steps + 7), 7 + steps % 2);
            due("store from 1 after " + steps, both.store(1, 128 * steps + 7), 7 - steps % 2);
        }

        says("or after fewer if the play ends or choice gives -2 before");
        EnergyGame ends = chain(4, 1, -1);
        for (int steps = 0; steps <= 30; steps++) {
            due("store on the way to the end after " + steps, ends.store(0, 128 * steps + 9), 9 - Math.min(steps, 3));
        }
        EnergyGame stuck = game(3, owners(1), edge(0, 1, -2), edge(1, 1, -3));
        due("no choice", stuck.choice(1), -2);
        for (int steps = 0; steps <= 30; steps++) {
            due("store on the way to no choice after " + steps, stuck.store(0, 128 * steps + 9), steps == 0 ? 9 : 7);
            due("store where there is no choice after " + steps, stuck.store(1, 128 * steps), 0);
        }

        says("A play that comes to a vertex without edges from it ends there [and nowhere else, below 0 neither]");
        EnergyGame under = game(4, owners(), edge(0, 1, -6), edge(1, 2, -6), edge(2, 3, 5));
        int[] stores = {3, -3, -9, -4, -4};
        for (int steps = 0; steps < stores.length; steps++) {
            due("store below 0 after " + steps, under.store(0, 128 * steps + 3), stores[steps]);
        }
        due("the least store there is", game(2, owners(1), edge(0, 0, -6)).store(0, 128 * 30), -180);
        due("the greatest store there is", game(2, owners(), edge(0, 0, 6)).store(0, 128 * 30 + 100), 280);
    }
}
