import java.util.Random;

/** A land by chance (of a told seed), and its MOST by ways that have nothing in common with the class's own. */
final class Model {
    int places;
    int[] keep = new int[8];
    int[][] gives = new int[8][];
    int towns;
    int[][] town = new int[4][];
    int works;
    int[][] work = new int[8][];
    int damPlace = -1;
    int damHolds;
    int[][] follow = {{0, 10, 0}, {0, 10, 0}, {0, 10, 0}};

    static Model byChance(Random r, boolean small) {
        Model m = new Model();
        m.places = small ? 1 + r.nextInt(4) : 1 + r.nextInt(8);
        int rivers = 1 + r.nextInt(3);
        for (int i = 0; i < rivers; i++) {
            m.giveRiver(r, r.nextInt(m.places), small ? 4 : 31);
        }
        int wanted = r.nextInt(5);
        for (int i = 0; i < wanted; i++) {
            m.foundTown(r, r.nextInt(m.places), small);
        }
        int dug = m.places == 1 ? 0 : r.nextInt(small ? 5 : 9);
        for (int i = 0; i < dug; i++) {
            int a = r.nextInt(m.places);
            int b = (a + 1 + r.nextInt(m.places - 1)) % m.places;
            int breadth = 1 + r.nextInt(small ? 3 : r.nextBoolean() ? 30 : 9);
            m.work[m.works++] = new int[] {a, b, breadth, r.nextInt(21), r.nextInt(100), 1 + r.nextInt(5)};
        }
        if (r.nextInt(4) != 0) {
            m.damPlace = r.nextInt(m.places);
            m.damHolds = 1 + r.nextInt(9);
        }
        for (int kind = 0; kind < 3; kind++) {
            if (r.nextBoolean()) {
                int wet = r.nextInt(11);
                int mean = r.nextInt(11 - wet);
                m.follow[kind] = new int[] {wet, mean, 10 - wet - mean};
            }
        }
        return m;
    }

    /** Narrow works among few places, so that paths get into one another's way and must be taken back. */
    static Model crowded(Random r) {
        Model m = new Model();
        m.places = 4 + r.nextInt(5);
        m.giveRiver(r, 0, 9);
        m.giveRiver(r, 1, 9);
        int towns = 1 + r.nextInt(2);
        for (int t = 0; t < towns; t++) {
            int v = 50 + r.nextInt(50);
            m.town[m.towns++] = new int[] {m.places - 1 - t, 1 + r.nextInt(9), v, r.nextInt(10), v - r.nextInt(30)};
        }
        for (int w = 0; w < 8; w++) {
            int a = r.nextInt(m.places);
            int b = (a + 1 + r.nextInt(m.places - 1)) % m.places;
            m.work[m.works++] = new int[] {a, b, 1 + r.nextInt(3), r.nextInt(10), 1, 1};
        }
        return m;
    }

    private void giveRiver(Random r, int place, int units) {
        if (gives[place] != null) {
            return;
        }
        gives[place] = new int[12];
        keep[place] = r.nextInt(3) == 0 ? 0 : r.nextInt(units / 2 + 1);
        for (int i = 0; i < 12; i++) {
            gives[place][i] = r.nextInt(units);
        }
    }

    private void foundTown(Random r, int place, boolean small) {
        for (int t = 0; t < towns; t++) {
            if (town[t][0] == place) {
                return;
            }
        }
        if (towns < 4) {
            int v = r.nextInt(small ? 40 : 100);
            town[towns++] = new int[] {place, r.nextInt(small ? 4 : 10), v, r.nextInt(small ? 4 : 10), r.nextInt(v + 1)};
        }
    }

    String text() {
        StringBuilder s = new StringBuilder("places " + places + ";");
        for (int p = 0; p < places; p++) {
            if (gives[p] != null) {
                s.append("river ").append(p).append(' ').append(keep[p]);
                for (int v : gives[p]) {
                    s.append(' ').append(v);
                }
                s.append(';');
            }
        }
        append(s, "town", town, towns);
        append(s, "work", work, works);
        if (damPlace >= 0) {
            s.append("dam ").append(damPlace).append(' ').append(damHolds).append(';');
        }
        for (int kind = 0; kind < 3; kind++) {
            if (follow[kind][1] != 10) {
                s.append("follow ").append(kind);
                for (int v : follow[kind]) {
                    s.append(' ').append(v);
                }
                s.append(';');
            }
        }
        return s.toString();
    }

    private static void append(StringBuilder s, String word, int[][] items, int n) {
        for (int i = 0; i < n; i++) {
            s.append(word);
            for (int v : items[i]) {
                s.append(' ').append(v);
            }
            s.append(';');
        }
    }

    int[] supply(int kind, int season) {
        int[] supply = new int[places];
        for (int p = 0; p < places; p++) {
            supply[p] = gives[p] == null ? 0 : Math.max(0, gives[p][kind * 4 + season] - keep[p]);
        }
        return supply;
    }

    int most(int kind, int season, int dug) {
        return most(supply(kind, season), dug, 15, -1);
    }

    int year(int kind, int dug) {
        int sum = 0;
        for (int season = 0; season < 4; season++) {
            sum += most(kind, season, dug);
        }
        return sum;
    }

    /** Circles that bring something are gone round, a unit each time, until there are none. */
    int most(int[] supply, int dug, int townSet, int broader) {
        int source = places;
        int sink = places + 1;
        int[] a = new int[64];
        int[] b = new int[64];
        int[] room = new int[64];
        int[] cost = new int[64];
        int n = 0;
        for (int p = 0; p < places; p++) {
            n = arc(a, b, room, cost, n, new int[] {source, p, supply[p], 0});
        }
        for (int w = 0; w < works; w++) {
            if ((dug >> w & 1) != 0) {
                int breadth = work[w][2] + (w == broader ? 1 : 0);
                n = arc(a, b, room, cost, n, new int[] {work[w][0], work[w][1], breadth, work[w][3]});
            }
        }
        for (int t = 0; t < towns; t++) {
            if ((townSet >> t & 1) != 0) {
                n = arc(a, b, room, cost, n, new int[] {town[t][0], sink, town[t][1], -town[t][2]});
                n = arc(a, b, room, cost, n, new int[] {town[t][0], sink, town[t][3], -town[t][4]});
            }
        }
        n = arc(a, b, room, cost, n, new int[] {sink, source, 1000, 0});
        int sum = 0;
        int got;
        do {
            got = goRound(a, b, room, cost, n);
            sum += got;
        } while (got > 0);
        return sum;
    }

    private static int arc(int[] a, int[] b, int[] room, int[] cost, int n, int[] arc) {
        a[n] = arc[0];
        b[n] = arc[1];
        room[n] = arc[2];
        cost[n] = arc[3];
        a[n + 1] = arc[1];
        b[n + 1] = arc[0];
        room[n + 1] = 0;
        cost[n + 1] = -arc[3];
        return n + 2;
    }

    private int goRound(int[] a, int[] b, int[] room, int[] cost, int n) {
        int nodes = places + 2;
        int[] far = new int[nodes];
        int[] by = new int[nodes];
        int last = -1;
        for (int i = 0; i < nodes; i++) {
            last = -1;
            for (int e = 0; e < n; e++) {
                if (room[e] > 0 && far[a[e]] + cost[e] < far[b[e]]) {
                    far[b[e]] = far[a[e]] + cost[e];
                    by[b[e]] = e;
                    last = b[e];
                }
            }
        }
        if (last < 0) {
            return 0;
        }
        for (int i = 0; i < nodes; i++) {
            last = a[by[last]];
        }
        int got = 0;
        int at = last;
        do {
            int e = by[at];
            room[e]--;
            room[e ^ 1]++;
            got -= cost[e];
            at = a[e];
        } while (at != last);
        return got;
    }

    /** All sendings there are, tried one by one: for small lands. */
    int mostOfAllSendings(int[] supply, int dug) {
        return tryAll(supply, dug, 0, new int[8]);
    }

    private int tryAll(int[] supply, int dug, int w, int[] sent) {
        if (w == works) {
            return troubleless(supply, sent) ? brings(supply, sent) : 0;
        }
        int best = 0;
        int breadth = (dug >> w & 1) != 0 ? work[w][2] : 0;
        for (int v = 0; v <= breadth; v++) {
            sent[w] = v;
            best = Math.max(best, tryAll(supply, dug, w + 1, sent));
        }
        sent[w] = 0;
        return best;
    }

    int stays(int[] supply, int[] sent, int place) {
        int stays = supply[place];
        for (int w = 0; w < works; w++) {
            stays += (work[w][1] == place ? sent[w] : 0) - (work[w][0] == place ? sent[w] : 0);
        }
        return stays;
    }

    private boolean troubleless(int[] supply, int[] sent) {
        for (int p = 0; p < places; p++) {
            if (stays(supply, sent, p) < 0) {
                return false;
            }
        }
        return true;
    }

    int brings(int[] supply, int[] sent) {
        int sum = 0;
        for (int t = 0; t < towns; t++) {
            for (int unit = 0; unit < stays(supply, sent, town[t][0]); unit++) {
                if (unit < town[t][1]) {
                    sum += town[t][2];
                } else if (unit < town[t][1] + town[t][3]) {
                    sum += town[t][4];
                }
            }
        }
        for (int w = 0; w < works; w++) {
            sum -= sent[w] * work[w][3];
        }
        return sum;
    }
}
