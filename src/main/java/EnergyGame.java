public final class EnergyGame {
    private static final int FEWEST_VERTICES = 2;
    private static final int MOST_VERTICES = 6;
    private static final int MOST_EDGES = 14;
    private static final int MOST_EDGES_FROM_ONE = 3;
    private static final int GREATEST_GAIN = 6;
    private static final int KEEPER = 0;
    private static final int OTHER = 1;

    private static final int NO_EDGE = -1;
    private static final int GREATEST_NEED = GREATEST_GAIN * (MOST_VERTICES - 1);
    // Stands above every need, so that "the lesser" and "the greater" treat it as endless.
    private static final int ENDLESS = GREATEST_NEED + 1;
    // Every round but the last raises a need by one or more, and each need can rise ENDLESS times.
    private static final int MOST_ROUNDS = MOST_VERTICES * ENDLESS + 1;

    private static final int IS_HOPELESS = -2;
    private static final int NO_CHOICE = -2;

    private static final int PLAY_UNIT = 128;
    private static final int MOST_STEPS = 30;
    private static final int MOST_CREDIT = 100;
    private static final int STORE_BAD_VERTEX = -1000;
    private static final int STORE_BAD_PLAY = -2000;

    private final int vertexCount;
    private int edgeCount;
    private final int[] ownerOf = new int[MOST_VERTICES];
    private final int[] startOf = new int[MOST_EDGES];
    private final int[] endOf = new int[MOST_EDGES];
    private final int[] gainOf = new int[MOST_EDGES];
    // Worked out anew by each question that reads it; it means nothing between calls.
    private final int[] needs = new int[MOST_VERTICES];

    public EnergyGame(int vertices) {
        if (vertices < FEWEST_VERTICES) {
            vertexCount = FEWEST_VERTICES;
        } else if (vertices > MOST_VERTICES) {
            vertexCount = MOST_VERTICES;
        } else {
            vertexCount = vertices;
        }
    }

    public int vertices() {
        return vertexCount;
    }

    public int give(int v, int player) {
        if (!isVertex(v)) {
            return -1;
        }
        if (!isPlayer(player)) {
            return -2;
        }
        int before = ownerOf[v];
        ownerOf[v] = player;
        return before;
    }

    public int link(int u, int v, int gain) {
        if (!isVertex(u) || !isVertex(v)) {
            return -1;
        }
        if (!isGain(gain)) {
            return -2;
        }
        if (edgeCount >= MOST_EDGES) {
            return -3;
        }
        if (edgesFrom(u) >= MOST_EDGES_FROM_ONE) {
            return -4;
        }
        int edge = edgeCount;
        startOf[edge] = u;
        endOf[edge] = v;
        gainOf[edge] = gain;
        edgeCount = edge + 1;
        return edge;
    }

    public int cut(int edge) {
        if (!isEdge(edge)) {
            return -1;
        }
        for (int e = edge + 1; e < edgeCount; e++) {
            startOf[e - 1] = startOf[e];
            endOf[e - 1] = endOf[e];
            gainOf[e - 1] = gainOf[e];
        }
        edgeCount = edgeCount - 1;
        return edgeCount;
    }

    public int set(int edge, int gain) {
        if (!isEdge(edge)) {
            return -1;
        }
        if (!isGain(gain)) {
            return -2;
        }
        int before = gainOf[edge];
        gainOf[edge] = gain;
        return before;
    }

    public int edges() {
        return edgeCount;
    }

    public int need(int v) {
        if (!isVertex(v)) {
            return -1;
        }
        findNeeds(NO_EDGE);
        return needAnswer(v);
    }

    public int safe(int credit) {
        findNeeds(NO_EDGE);
        int members = 0;
        for (int v = 0; v < vertexCount; v++) {
            if (needs[v] != ENDLESS && needs[v] <= credit) {
                members = members | (1 << v);
            }
        }
        return members;
    }

    public int hopeless() {
        findNeeds(NO_EDGE);
        int count = 0;
        for (int v = 0; v < vertexCount; v++) {
            if (needs[v] == ENDLESS) {
                count++;
            }
        }
        return count;
    }

    public int choice(int v) {
        if (!isVertex(v)) {
            return -1;
        }
        findNeeds(NO_EDGE);
        return firstGoodEdge(v);
    }

    public int choices(int v) {
        if (!isVertex(v)) {
            return -1;
        }
        findNeeds(NO_EDGE);
        int count = 0;
        for (int e = 0; e < edgeCount; e++) {
            if (startOf[e] == v && isGoodForOwner(e)) {
                count++;
            }
        }
        return count;
    }

    public int needWithout(int v, int edge) {
        if (!isVertex(v)) {
            return -1;
        }
        if (!isEdge(edge)) {
            return -3;
        }
        findNeeds(edge);
        return needAnswer(v);
    }

    public int needOf(int v, int player) {
        if (!isVertex(v)) {
            return -1;
        }
        if (!isPlayer(player)) {
            return -3;
        }
        int before = ownerOf[v];
        ownerOf[v] = player;
        findNeeds(NO_EDGE);
        // A question changes nothing, so the vertex goes back to its owner.
        ownerOf[v] = before;
        return needAnswer(v);
    }

    public int greatest() {
        findNeeds(NO_EDGE);
        int most = 0;
        for (int v = 0; v < vertexCount; v++) {
            if (needs[v] != ENDLESS && needs[v] > most) {
                most = needs[v];
            }
        }
        return most;
    }

    public int store(int v, int play) {
        if (!isVertex(v)) {
            return STORE_BAD_VERTEX;
        }
        if (!isPlay(play)) {
            return STORE_BAD_PLAY;
        }
        findNeeds(NO_EDGE);
        int steps = play / PLAY_UNIT;
        int held = play % PLAY_UNIT;
        int at = v;
        for (int step = 0; step < steps; step++) {
            int edge = firstGoodEdge(at);
            if (edge == NO_CHOICE) {
                break;
            }
            // The play goes on below 0 too: the document ends it only where no edge can be chosen.
            held = held + gainOf[edge];
            at = endOf[edge];
        }
        return held;
    }

    private boolean isVertex(int v) {
        return v >= 0 && v < vertexCount;
    }

    private boolean isEdge(int edge) {
        return edge >= 0 && edge < edgeCount;
    }

    private static boolean isPlayer(int player) {
        return player == KEEPER || player == OTHER;
    }

    private static boolean isGain(int gain) {
        return gain >= -GREATEST_GAIN && gain <= GREATEST_GAIN;
    }

    private static boolean isPlay(int play) {
        return play >= 0 && play / PLAY_UNIT <= MOST_STEPS && play % PLAY_UNIT <= MOST_CREDIT;
    }

    private int edgesFrom(int v) {
        int count = 0;
        for (int e = 0; e < edgeCount; e++) {
            if (startOf[e] == v) {
                count++;
            }
        }
        return count;
    }

    // The needs are the least numbers that agree with each other along the edges, so they are
    // reached by raising from 0 only what must be raised.
    private void findNeeds(int without) {
        for (int v = 0; v < vertexCount; v++) {
            needs[v] = 0;
        }
        boolean raised = true;
        for (int round = 0; raised && round < MOST_ROUNDS; round++) {
            raised = false;
            for (int v = 0; v < vertexCount; v++) {
                int asked = askedAt(v, without);
                if (asked > needs[v]) {
                    needs[v] = asked;
                    raised = true;
                }
            }
        }
    }

    private int askedAt(int v, int without) {
        boolean keeps = ownerOf[v] == KEEPER;
        boolean found = false;
        int best = 0;
        for (int e = 0; e < edgeCount; e++) {
            if (startOf[e] == v && e != without) {
                int asked = askedAlong(e);
                if (!found || (keeps ? asked < best : asked > best)) {
                    best = asked;
                }
                found = true;
            }
        }
        return best;
    }

    private int askedAlong(int edge) {
        int atEnd = needs[endOf[edge]];
        if (atEnd == ENDLESS) {
            return ENDLESS;
        }
        int asked = atEnd - gainOf[edge];
        if (asked < 0) {
            return 0;
        }
        // No need is so great: whoever must have more than the greatest need can never have enough.
        return asked > GREATEST_NEED ? ENDLESS : asked;
    }

    private int needAnswer(int v) {
        return needs[v] == ENDLESS ? IS_HOPELESS : needs[v];
    }

    private int firstGoodEdge(int v) {
        for (int e = 0; e < edgeCount; e++) {
            if (startOf[e] == v && isGoodForOwner(e)) {
                return e;
            }
        }
        return NO_CHOICE;
    }

    private boolean isGoodForOwner(int edge) {
        int start = startOf[edge];
        boolean endIsHopeless = needs[endOf[edge]] == ENDLESS;
        if (needs[start] == ENDLESS) {
            return ownerOf[start] == OTHER && endIsHopeless;
        }
        return !endIsHopeless && askedAlong(edge) == needs[start];
    }
}
