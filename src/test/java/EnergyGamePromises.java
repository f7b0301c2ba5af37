// Each promise by itself: ordinary inputs, the edges that the document names, and wrong inputs.
public final class EnergyGamePromises {
    private static int wrong = 0;

    private static void due(String what, int got, int want) {
        if (got != want) {
            wrong++;
            System.out.println(what + " answered " + got + ", due is " + want);
        }
    }

    // 0 -> 1 -> .. -> n-1, each edge with the gain; the last vertex has no edge.
    private static EnergyGame chain(int n, int gain) {
        EnergyGame game = new EnergyGame(n);
        for (int v = 0; v + 1 < n; v++) {
            game.link(v, v + 1, gain);
        }
        return game;
    }

    // The other player owns 0 and may loop there at a loss, or go to 1, from where he can come back.
    private static EnergyGame trap() {
        EnergyGame game = new EnergyGame(3);
        game.give(0, 1);
        game.link(0, 2, -6);
        game.link(0, 0, -1);
        game.link(0, 1, 3);
        game.link(1, 0, 6);
        return game;
    }

    public static void main(String[] args) {
        newObject();
        give();
        link();
        linkTestsInOrder();
        cut();
        set();
        need();
        needOfEndsAndCycles();
        safe();
        hopeless();
        choice();
        choices();
        needWithout();
        needOf();
        greatest();
        store();
        storeWrongInputs();
        refusedCallsChangeNothing();
        questionsChangeNothing();
        System.out.println(wrong == 0 ? "all answers are as due" : wrong + " answers are not as due");
        if (wrong != 0) {
            System.exit(1);
        }
    }

    // Promises 1, 2 and 7.
    private static void newObject() {
        int[] asked = {Integer.MIN_VALUE, -1, 0, 1, 2, 3, 4, 5, 6, 7, Integer.MAX_VALUE};
        int[] made = {2, 2, 2, 2, 2, 3, 4, 5, 6, 6, 6};
        for (int i = 0; i < asked.length; i++) {
            EnergyGame game = new EnergyGame(asked[i]);
            due("P2 vertices of new " + asked[i], game.vertices(), made[i]);
            due("P1 edges of new " + asked[i], game.edges(), 0);
            due("P1 last vertex of new " + asked[i], game.need(made[i] - 1), 0);
            due("P1 beyond the last of new " + asked[i], game.need(made[i]), -1);
            for (int v = 0; v < made[i]; v++) {
                due("P1 first owner of " + v, game.give(v, 0), 0);
            }
        }
    }

    private static void give() {
        EnergyGame game = new EnergyGame(3);
        due("P3 give to the other", game.give(2, 1), 0);
        due("P3 give to the other again", game.give(2, 1), 1);
        due("P3 give back", game.give(2, 0), 1);
        due("P3 give back again", game.give(2, 0), 0);
        due("P3 the others stay", game.give(1, 0), 0);
        due("P3 v below", game.give(-1, 0), -1);
        due("P3 v above", game.give(3, 0), -1);
        due("P3 v far below", game.give(Integer.MIN_VALUE, 0), -1);
        due("P3 v far above", game.give(Integer.MAX_VALUE, 0), -1);
        due("P3 player above", game.give(0, 2), -2);
        due("P3 player below", game.give(0, -1), -2);
        due("P3 v is tested first", game.give(3, 2), -1);
    }

    // Promises 4 and 7.
    private static void link() {
        EnergyGame game = new EnergyGame(3);
        due("P4 first", game.link(0, 1, -6), 0);
        due("P4 the same again", game.link(0, 1, -6), 1);
        due("P4 to itself", game.link(2, 2, 6), 2);
        due("P7 three", game.edges(), 3);
        due("P4 u below", game.link(-1, 0, 0), -1);
        due("P4 u above", game.link(3, 0, 0), -1);
        due("P4 v below", game.link(0, -1, 0), -1);
        due("P4 v above", game.link(0, 3, 0), -1);
        due("P4 gain below", game.link(0, 0, -7), -2);
        due("P4 gain above", game.link(0, 0, 7), -2);
        due("P4 gain far below", game.link(0, 0, Integer.MIN_VALUE), -2);
        due("P4 gain far above", game.link(0, 0, Integer.MAX_VALUE), -2);
        due("P7 still three", game.edges(), 3);
        due("P4 third from 0", game.link(0, 2, 0), 3);
        due("P4 fourth from 0", game.link(0, 2, 0), -4);
        due("P4 many may lead to a vertex", game.link(1, 2, 0), 4);
        due("P4 cut makes room", game.cut(0), 4);
        due("P4 third from 0 again", game.link(0, 2, 0), 4);
        due("P7 five", game.edges(), 5);
    }

    private static void linkTestsInOrder() {
        EnergyGame game = new EnergyGame(6);
        for (int e = 0; e < 14; e++) {
            due("P4 link " + e, game.link(e / 3, 5, 0), e);
        }
        due("P7 fourteen", game.edges(), 14);
        due("P4 fifteenth, room at u", game.link(5, 5, 0), -3);
        due("P4 fifteenth, no room at u", game.link(0, 5, 0), -3);
        due("P4 gain before room", game.link(0, 5, 7), -2);
        due("P4 vertex before gain", game.link(0, 6, 7), -1);
        due("P4 cut one", game.cut(13), 13);
        due("P4 no room at u", game.link(0, 5, 0), -4);
        due("P4 gain before room at u", game.link(0, 5, -7), -2);
        due("P4 room at the last vertex", game.link(5, 5, 0), 13);
    }

    private static void cut() {
        EnergyGame game = new EnergyGame(4);
        due("P5 nothing to cut", game.cut(0), -1);
        game.link(0, 1, 1);
        game.link(1, 2, 2);
        game.link(2, 3, -3);
        game.link(3, 3, 4);
        due("P5 edge below", game.cut(-1), -1);
        due("P5 edge above", game.cut(4), -1);
        due("P5 edge far below", game.cut(Integer.MIN_VALUE), -1);
        due("P5 edge far above", game.cut(Integer.MAX_VALUE), -1);
        due("P7 none was cut", game.edges(), 4);
        due("P5 cut in the middle", game.cut(1), 3);
        due("P7 three left", game.edges(), 3);
        due("P5 the one before stays", game.set(0, 1), 1);
        due("P5 the later one has number 1", game.set(1, -3), -3);
        due("P5 the last one has number 2", game.set(2, 4), 4);
        due("P5 its start moved too", game.choice(2), 1);
        due("P5 its end moved too", game.store(2, 128 * 2 + 10), 11);
        due("P5 cut vertex has no edge", game.choice(1), -2);
        due("P5 cut the last", game.cut(2), 2);
        due("P5 cut the first", game.cut(0), 1);
        due("P5 what is left", game.need(2), 3);
        due("P5 cut the only one", game.cut(0), 0);
        due("P5 none is left", game.cut(0), -1);
        due("P5 number begins at 0 again", game.link(3, 0, 0), 0);
    }

    private static void set() {
        EnergyGame game = chain(3, -2);
        due("P6 set", game.set(1, -6), -2);
        due("P6 set again", game.set(1, 6), -6);
        due("P6 the gain counts", game.need(1), 0);
        due("P6 back", game.set(1, -5), 6);
        due("P6 the gain counts", game.need(1), 5);
        due("P6 the other edge stays", game.set(0, -2), -2);
        due("P6 edge below", game.set(-1, 0), -1);
        due("P6 edge above", game.set(2, 0), -1);
        due("P6 edge far above", game.set(Integer.MAX_VALUE, 0), -1);
        due("P6 gain below", game.set(0, -7), -2);
        due("P6 gain above", game.set(0, 7), -2);
        due("P6 edge is tested first", game.set(2, 7), -1);
        due("P6 nothing was changed", game.set(0, 0), -2);
    }

    private static void need() {
        EnergyGame game = new EnergyGame(4);
        game.link(0, 1, -5);
        game.link(0, 2, -2);
        game.link(1, 3, 4);
        game.link(2, 3, -1);
        due("P8 keeper takes the lesser", game.need(0), 3);
        game.give(0, 1);
        due("P8 other takes the greater", game.need(0), 5);
        due("P8 gains above do not make it less than 0", game.need(1), 0);
        due("P8 end", game.need(3), 0);
        due("P8 v below", game.need(-1), -1);
        due("P8 v above", game.need(4), -1);
        due("P8 v far below", game.need(Integer.MIN_VALUE), -1);
        due("P8 v far above", game.need(Integer.MAX_VALUE), -1);
        for (int n = 2; n <= 6; n++) {
            due("P8 greatest possible with " + n, chain(n, -6).need(0), 6 * (n - 1));
        }
    }

    private static void needOfEndsAndCycles() {
        EnergyGame slow = new EnergyGame(6);
        for (int v = 0; v < 6; v++) {
            slow.link(v, (v + 1) % 6, v == 5 ? -1 : 0);
        }
        due("P8 cycle that loses 1", slow.need(0), -2);
        due("P10 all on it", slow.hopeless(), 6);
        slow.set(2, 1);
        due("P8 cycle that loses nothing, after its gain", slow.need(3), 1);
        due("P8 cycle that loses nothing, before its gain", slow.need(2), 0);
        EnergyGame dip = new EnergyGame(6);
        for (int v = 0; v < 6; v++) {
            dip.link(v, (v + 1) % 6, v < 3 ? -6 : 6);
        }
        due("P8 cycle with a deep dip", dip.need(0), 18);
        due("P8 cycle at the dip's foot", dip.need(3), 0);
        dip.set(5, 5);
        due("P8 deep dip that is not made good", dip.need(3), -2);
        EnergyGame game = trap();
        due("P8 other loops at a loss", game.need(0), -2);
        due("P8 keeper must walk into the trap", game.need(1), -2);
        due("P8 no edge, no loss", game.need(2), 0);
        game.give(2, 1);
        due("P8 an end of the other's", game.need(2), 0);
        game.link(1, 2, -6);
        due("P8 keeper walks past the trap", game.need(1), 6);
    }

    private static void safe() {
        EnergyGame game = chain(6, -6);
        due("P9 none below 0", game.safe(-1), 0);
        due("P9 far below", game.safe(Integer.MIN_VALUE), 0);
        due("P9 credit 0", game.safe(0), 32);
        due("P9 credit 5", game.safe(5), 32);
        due("P9 credit 6", game.safe(6), 48);
        due("P9 credit 29", game.safe(29), 62);
        due("P9 credit 30", game.safe(30), 63);
        due("P9 far above", game.safe(Integer.MAX_VALUE), 63);
        due("P9 never a hopeless one", trap().safe(Integer.MAX_VALUE), 4);
        due("P9 never a hopeless one at 31", trap().safe(31), 4);
        due("P9 no vertex beyond n", new EnergyGame(2).safe(100), 3);
    }

    private static void hopeless() {
        due("P10 none", chain(6, -6).hopeless(), 0);
        due("P10 two", trap().hopeless(), 2);
        EnergyGame game = new EnergyGame(2);
        game.link(0, 0, -1);
        game.link(1, 1, -6);
        due("P10 all", game.hopeless(), 2);
        game.set(0, 0);
        due("P10 one", game.hopeless(), 1);
        game.link(1, 0, -6);
        due("P10 a way out", game.hopeless(), 0);
        game.give(1, 1);
        due("P10 not for the other", game.hopeless(), 1);
    }

    private static void choice() {
        EnergyGame game = new EnergyGame(4);
        game.link(0, 1, -5);
        game.link(0, 2, -2);
        game.link(0, 3, -2);
        due("P11 keeper's least number", game.choice(0), 1);
        game.give(0, 1);
        due("P11 other's", game.choice(0), 0);
        due("P11 no edges", game.choice(1), -2);
        due("P11 v below", game.choice(-1), -1);
        due("P11 v above", game.choice(4), -1);
        due("P11 v far above", game.choice(Integer.MAX_VALUE), -1);
        EnergyGame trap = trap();
        due("P11 other at a hopeless vertex", trap.choice(0), 1);
        due("P11 keeper at a hopeless vertex", trap.choice(1), -2);
        trap.link(1, 2, -6);
        due("P11 keeper's edge to a hopeless end", trap.choice(1), 4);
        trap.cut(1);
        due("P11 nothing is hopeless now", trap.hopeless(), 0);
        due("P11 other's at a need above 0", trap.choice(0), 0);
        due("P11 keeper's by number, not by gain", trap.choice(1), 2);
    }

    private static void choices() {
        EnergyGame game = new EnergyGame(4);
        game.link(0, 1, -5);
        game.link(0, 2, -2);
        game.link(0, 3, -2);
        due("P12 keeper's two", game.choices(0), 2);
        game.give(0, 1);
        due("P12 other's one", game.choices(0), 1);
        due("P12 no edges", game.choices(1), 0);
        due("P12 v below", game.choices(-1), -1);
        due("P12 v above", game.choices(4), -1);
        game.set(0, 0);
        game.set(1, 3);
        game.set(2, 6);
        due("P12 all ask for 0", game.choices(0), 3);
        game.give(0, 0);
        due("P12 all ask the keeper for 0", game.choices(0), 3);
        EnergyGame trap = trap();
        due("P12 other at a hopeless vertex", trap.choices(0), 2);
        due("P12 keeper at a hopeless vertex", trap.choices(1), 0);
        trap.link(1, 2, -6);
        due("P12 other's edge to a vertex with a way out", trap.choices(0), 1);
        due("P12 keeper's one way out", trap.choices(1), 1);
    }

    private static void needWithout() {
        EnergyGame game = new EnergyGame(4);
        game.link(0, 1, -5);
        game.link(0, 2, -2);
        game.link(1, 1, -1);
        game.link(1, 3, -3);
        due("P13 without the good one", game.needWithout(0, 1), 8);
        due("P13 without the other one", game.needWithout(0, 0), 2);
        due("P13 without a later edge", game.needWithout(1, 2), 3);
        due("P13 would be hopeless", game.needWithout(1, 3), -2);
        due("P13 without an edge from elsewhere", game.needWithout(0, 3), 2);
        due("P13 v below", game.needWithout(-1, 0), -1);
        due("P13 v above", game.needWithout(4, 0), -1);
        due("P13 edge below", game.needWithout(1, -1), -3);
        due("P13 edge above", game.needWithout(1, 4), -3);
        due("P13 edge far above", game.needWithout(1, Integer.MAX_VALUE), -3);
        due("P13 v is tested first", game.needWithout(4, 4), -1);
        game.cut(3);
        due("P13 edge is tested before hopeless", game.needWithout(1, 3), -3);
        due("P13 a last edge gone is an end", game.needWithout(1, 2), 0);
        due("P13 the edge is still there", game.need(1), -2);
        due("P13 other's last edge", trap().needWithout(1, 3), 0);
        due("P13 other's loop", trap().needWithout(0, 1), 6);
    }

    private static void needOf() {
        EnergyGame game = trap();
        due("P14 the trap given away", game.needOf(0, 0), 0);
        due("P14 the trap as it is", game.needOf(0, 1), -2);
        due("P14 keeper's already", game.needOf(1, 0), -2);
        game.link(1, 2, -4);
        due("P14 keeper has a way out", game.needOf(1, 0), 4);
        due("P14 other has none to take", game.needOf(1, 1), -2);
        due("P14 an end", game.needOf(2, 1), 0);
        due("P14 v below", game.needOf(-1, 0), -1);
        due("P14 v above", game.needOf(3, 0), -1);
        due("P14 player below", game.needOf(2, -1), -3);
        due("P14 player above", game.needOf(2, 2), -3);
        due("P14 v is tested first", game.needOf(3, 2), -1);
        due("P14 player is tested before hopeless", game.needOf(0, 2), -3);
        due("P14 the owner stays", game.give(1, 0), 0);
        due("P14 the other stays", game.give(0, 1), 1);
    }

    private static void greatest() {
        due("P15 new", new EnergyGame(6).greatest(), 0);
        due("P15 greatest possible", chain(6, -6).greatest(), 30);
        due("P15 only gains", chain(6, 6).greatest(), 0);
        due("P15 hopeless ones do not count", trap().greatest(), 0);
        EnergyGame game = new EnergyGame(2);
        game.link(0, 0, -1);
        game.link(1, 1, -1);
        due("P15 all hopeless", game.greatest(), 0);
        game.link(1, 1, 0);
        due("P15 need 0", game.greatest(), 0);
        game.link(0, 1, -4);
        due("P15 at the first vertex", game.greatest(), 4);
    }

    private static void store() {
        EnergyGame game = chain(6, -6);
        due("P16 no steps", game.store(0, 100), 100);
        due("P16 no credit", game.store(0, 0), 0);
        due("P16 one step", game.store(0, 128 + 30), 24);
        due("P16 to the end", game.store(0, 128 * 5 + 30), 0);
        due("P16 the play ends before", game.store(0, 128 * 30 + 100), 70);
        due("P16 at an end", game.store(5, 128 * 30 + 7), 7);
        due("P16 goes on below 0", game.store(0, 128 * 30), -30);
        EnergyGame loop = new EnergyGame(2);
        loop.link(0, 0, 6);
        due("P16 the most", loop.store(0, 128 * 30 + 100), 280);
        due("P16 one step less", loop.store(0, 128 * 29 + 100), 274);
        loop.set(0, -6);
        due("P16 no choice", loop.store(0, 128 * 30 + 100), 100);
        loop.give(0, 1);
        due("P16 the least", loop.store(0, 128 * 30), -180);
        EnergyGame trap = trap();
        due("P16 other stays in his trap", trap.store(0, 128 * 9 + 3), -6);
        trap.cut(1);
        trap.link(2, 1, 1);
        due("P16 both choose by choice", trap.store(0, 128 * 4 + 6), 1);
        EnergyGame stop = new EnergyGame(3);
        stop.give(0, 1);
        stop.link(0, 1, -2);
        stop.link(1, 1, -1);
        due("P16 no choice after a step", stop.store(0, 128 * 8 + 9), 7);
    }

    private static void storeWrongInputs() {
        EnergyGame game = new EnergyGame(2);
        game.link(0, 0, 1);
        due("P16 v below", game.store(-1, 0), -1000);
        due("P16 v above", game.store(2, 0), -1000);
        due("P16 v is tested first", game.store(2, -1), -1000);
        due("P16 play below", game.store(0, -1), -2000);
        due("P16 play -28 is no credit 100", game.store(0, -28), -2000);
        due("P16 play -128", game.store(0, -128), -2000);
        due("P16 play far below", game.store(0, Integer.MIN_VALUE), -2000);
        due("P16 play far above", game.store(0, Integer.MAX_VALUE), -2000);
        due("P16 credit 100", game.store(0, 128 + 100), 101);
        due("P16 credit 101", game.store(0, 128 + 101), -2000);
        due("P16 credit 127", game.store(0, 127), -2000);
        due("P16 steps 30", game.store(0, 128 * 30), 30);
        due("P16 steps 31", game.store(0, 128 * 31), -2000);
    }

    private static void refusedCallsChangeNothing() {
        EnergyGame game = chain(3, -2);
        game.give(0, 7);
        game.give(3, 1);
        game.link(0, 3, 1);
        game.link(0, 1, 9);
        game.cut(2);
        game.cut(-1);
        game.set(2, 5);
        game.set(0, 9);
        due("refused: edges", game.edges(), 2);
        due("refused: need", game.need(0), 4);
        due("refused: gain", game.set(0, -2), -2);
        due("refused: owner", game.give(0, 0), 0);
    }

    private static void questionsChangeNothing() {
        EnergyGame game = trap();
        for (int turn = 0; turn < 2; turn++) {
            due("asked: needOf", game.needOf(0, 0), 0);
            due("asked: need after needOf", game.need(0), -2);
            due("asked: needWithout", game.needWithout(0, 1), 6);
            due("asked: need after needWithout", game.need(0), -2);
            due("asked: choice after needWithout", game.choice(0), 1);
            due("asked: store", game.store(0, 128 * 3 + 4), 1);
            due("asked: hopeless", game.hopeless(), 2);
            due("asked: safe", game.safe(3), 4);
            due("asked: edges", game.edges(), 4);
            due("asked: vertices", game.vertices(), 3);
        }
    }
}
