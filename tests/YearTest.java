import java.util.Random;

/** Promises 15 to 19: a YEAR, BEST, ORDER, MEAN, THE DAM. */
public final class YearTest {
    public static void main(String[] args) {
        Random r = new Random(5);
        for (int i = 0; i < 60; i++) {
            Model m = Model.byChance(r, i % 4 == 0);
            TurnedRivers x = Check.landOf(m);
            compare(m, x, r);
            for (int p = 0; p < m.places; p++) {
                if (m.gives[p] != null) {
                    int v = r.nextInt(6);
                    Check.due("keep", x.keep(p, v), m.keep[p]);
                    m.keep[p] = v;
                }
            }
            compare(m, x, r);
        }
        fullDam(r);
        ties();
        wrong();
        wrongRows();
        Check.end("YearTest");
    }

    private static void compare(Model m, TurnedRivers x, Random r) {
        int[][] years = new int[3][1 << m.works];
        for (int kind = 0; kind < 3; kind++) {
            for (int set = 0; set < 1 << m.works; set++) {
                years[kind][set] = m.year(kind, set);
            }
        }
        int dug = r.nextInt(1 << m.works);
        for (int kind = 0; kind < 3; kind++) {
            Check.due("year of " + m.text(), x.year(kind, dug | -1 << m.works), years[kind][dug]);
            for (int n = 1; n <= 6; n++) {
                long mean = mean(m, years, kind, n, dug);
                Check.due("mean " + n + " of " + m.text(), x.mean(kind, n, dug), mean);
            }
        }
        best(m, x, years, new int[] {0, r.nextInt(100), r.nextInt(300), 999});
        for (int i = 0; i < 5; i++) {
            order(m, x, years, r.nextInt(256), 1 + r.nextInt(20));
        }
        for (int n = 1; n <= 5; n++) {
            int rows = (int) Math.pow(3, n);
            dam(m, x, r.nextInt(rows), n, dug);
        }
    }

    private static long mean(Model m, int[][] years, int kind, int n, int dug) {
        // All rows of YEARS there may be, each by how often it comes.
        long sum = 0;
        for (int row = 0; row < Math.pow(3, n - 1); row++) {
            long often = 1;
            long brings = years[kind][dug];
            int before = kind;
            int rest = row;
            for (int i = 1; i < n; i++) {
                often *= m.follow[before][rest % 3];
                before = rest % 3;
                rest /= 3;
                brings += years[before][dug];
            }
            sum += often * brings;
        }
        return sum;
    }

    private static void best(Model m, TurnedRivers x, int[][] years, int[] coins) {
        for (int c : coins) {
            int most = -1;
            int bestSet = 0;
            for (int set = (1 << m.works) - 1; set >= 0; set--) {
                int cost = 0;
                for (int w = 0; w < m.works; w++) {
                    cost += (set >> w & 1) * m.work[w][4];
                }
                int sum = years[0][set] + years[1][set] + years[2][set];
                if (cost <= c && sum >= most) {
                    most = sum;
                    bestSet = set;
                }
            }
            Check.due("best " + c + " of " + m.text(), x.best(c, 0), bestSet);
            Check.due("best " + c + " of " + m.text(), x.best(c, 1), most);
        }
    }

    private static void order(Model m, TurnedRivers x, int[][] years, int set, int n) {
        int works = set & (1 << m.works) - 1;
        if (Integer.bitCount(works) > 5) {
            Check.due("order of too many", x.order(set, n, 0), -2);
            Check.due("order of too many", x.order(set, n, 1), -2);
            return;
        }
        int[] best = {-1, 0};
        tryOrders(m, years[1], works, n, new int[5], 0, best);
        Check.due("order " + set + " " + n + " of " + m.text(), x.order(set, n, 0), best[0]);
        Check.due("order " + set + " " + n + " of " + m.text(), x.order(set, n, 1), best[1]);
    }

    private static void tryOrders(Model m, int[] year, int left, int n, int[] row, int at, int[] best) {
        if (left == 0) {
            int sum = 0;
            for (int y = 0; y < n; y++) {
                int done = 0;
                int gone = 0;
                for (int i = 0; i < at; i++) {
                    gone += m.work[row[i]][5];
                    done |= gone <= y ? 1 << row[i] : 0;
                }
                sum += year[done];
            }
            int told = 0;
            for (int i = 0; i < at; i++) {
                told = told * 8 + row[i];
            }
            if (sum > best[0] || sum == best[0] && told < best[1]) {
                best[0] = sum;
                best[1] = told;
            }
        }
        for (int w = 7; w >= 0; w--) {
            if ((left >> w & 1) != 0) {
                row[at] = w;
                tryOrders(m, year, left & ~(1 << w), n, row, at + 1, best);
            }
        }
    }

    private static void dam(Model m, TurnedRivers x, int row, int n, int dug) {
        if (m.damPlace < 0) {
            Check.due("dam where there is none", x.dam(row, n, dug, 0), -2);
            Check.due("dam where there is none", x.dam(row, n, dug, 1), -2);
            return;
        }
        // Forward, each first keeping by itself: the sums by which what is held can be had.
        int[] kinds = new int[n];
        int rest = row;
        for (int i = n - 1; i >= 0; i--) {
            kinds[i] = rest % 3;
            rest /= 3;
        }
        int best = -1;
        int least = 0;
        int first = m.supply(kinds[0], 0)[m.damPlace];
        for (int kept = 0; kept <= Math.min(m.damHolds, first); kept++) {
            int sum = forward(m, kinds, dug, kept);
            if (sum > best) {
                best = sum;
                least = kept;
            }
        }
        Check.due("dam " + row + " " + n + " " + dug + " of " + m.text(), x.dam(row, n, dug, 0), best);
        Check.due("kept " + row + " " + n + " " + dug + " of " + m.text(), x.dam(row, n, dug, 1), least);
    }

    /** As much as a RIVER and THE DAM can have at once, and TOWNS that want all of it. */
    private static void fullDam(Random r) {
        Model m = new Model();
        m.places = 3;
        m.gives[0] = new int[] {30, 30, 30, 30, 20, 30, 25, 0, 0, 1, 30, 30};
        m.town[0] = new int[] {0, 9, 99, 9, 90};
        m.town[1] = new int[] {1, 9, 80, 9, 70};
        m.town[2] = new int[] {2, 9, 60, 9, 50};
        m.towns = 3;
        m.work[0] = new int[] {0, 1, 30, 1, 1, 1};
        m.work[1] = new int[] {0, 2, 30, 1, 1, 1};
        m.works = 2;
        m.damPlace = 0;
        m.damHolds = 9;
        TurnedRivers x = Check.landOf(m);
        for (int n = 1; n <= 5; n++) {
            for (int i = 0; i < 9; i++) {
                dam(m, x, r.nextInt((int) Math.pow(3, n)), n, 3);
            }
        }
    }

    private static int forward(Model m, int[] kinds, int dug, int firstKept) {
        int[] sums = new int[10];
        java.util.Arrays.fill(sums, -1);
        sums[0] = 0;
        int best = 0;
        for (int t = 0; t < kinds.length * 4; t++) {
            int[] next = new int[10];
            java.util.Arrays.fill(next, -1);
            int[] supply = m.supply(kinds[t / 4], t % 4);
            int given = supply[m.damPlace];
            int[] most = new int[given + 10];
            for (int water = 0; water < most.length; water++) {
                supply[m.damPlace] = water;
                most[water] = m.most(supply, dug, 15, -1);
            }
            best = 0;
            for (int held = 0; held < 10; held++) {
                for (int kept = 0; sums[held] >= 0 && kept <= Math.min(m.damHolds, given + held); kept++) {
                    if (t > 0 || kept == firstKept) {
                        next[kept] = Math.max(next[kept], sums[held] + most[given + held - kept]);
                        best = Math.max(best, next[kept]);
                    }
                }
            }
            sums = next;
        }
        return best;
    }

    private static void ties() {
        TurnedRivers x = Check.landOf("places 2;river 0 0 5 5 5 5 5 5 5 5 5 5 5 5;town 1 5 10 0 0;"
                + "work 0 1 5 0 10 1;work 0 1 5 0 10 1;work 1 0 5 0 0 1;", 6);
        Check.due("of several the least", x.best(10, 0), 1);
        Check.due("of several the least", x.best(999, 0), 1);
        Check.due("too dear", x.best(9, 0), 0);
        Check.due("too dear", x.best(9, 1), 0);
        Check.due("of several orders the least", x.order(7, 1, 1), 0 * 64 + 8 + 2);
        Check.due("one year", x.order(7, 1, 0), 0);
        Check.due("two years", x.order(7, 2, 0), 200);
        Check.due("without works", x.order(0, 20, 1), 0);
        Check.due("without works there", x.order(248, 20, 0), 0);
        Check.due("one work", x.order(2, 1, 1), 1);
    }

    private static void wrong() {
        TurnedRivers x = Check.landOf("places 2;river 0 0 5 5 5 5 5 5 5 5 5 5 5 5;town 0 5 10 0 0;", 3);
        Check.due("year(-1, 0)", x.year(-1, 0), -1);
        Check.due("year(3, 0)", x.year(3, 0), -1);
        Check.due("year(2, -1)", x.year(2, -1), 200);
        Check.due("best(-1, 0)", x.best(-1, 0), -1);
        Check.due("best(1000, 0)", x.best(1000, 0), -1);
        Check.due("best(0, 2)", x.best(0, 2), -1);
        Check.due("best(0, -1)", x.best(0, -1), -1);
        Check.due("best(999, 1)", x.best(999, 1), 600);
        Check.due("order(0, 0, 0)", x.order(0, 0, 0), -1);
        Check.due("order(0, 21, 0)", x.order(0, 21, 0), -1);
        Check.due("order(0, 1, 2)", x.order(0, 1, 2), -1);
        Check.due("order(0, 1, -1)", x.order(0, 1, -1), -1);
        Check.due("order(0, 20, 0)", x.order(0, 20, 0), 4000);
        Check.due("mean(0, 0, 0)", x.mean(0, 0, 0), -1);
        Check.due("mean(0, 7, 0)", x.mean(0, 7, 0), -1);
        Check.due("mean(3, 1, 0)", x.mean(3, 1, 0), -1);
        Check.due("mean(-1, 1, 0)", x.mean(-1, 1, 0), -1);
        TurnedRivers many = Check.landOf("places 2;work 0 1 1 1 1 1;work 0 1 1 1 1 1;work 0 1 1 1 1 1;"
                + "work 0 1 1 1 1 1;work 0 1 1 1 1 1;work 0 1 1 1 1 1;", 7);
        Check.due("six works", many.order(63, 1, 0), -2);
        Check.due("six works, and no years", many.order(63, 0, 0), -1);
        Check.due("five works", many.order(62, 1, 1), (((1 * 8 + 2) * 8 + 3) * 8 + 4) * 8 + 5);
    }

    private static void wrongRows() {
        TurnedRivers x = Check.landOf("places 2;river 0 0 5 0 0 0 5 5 5 5 5 5 5 5;town 0 3 10 0 0;dam 0 9;", 4);
        int rows = 1;
        for (int n = 1; n <= 5; n++) {
            rows *= 3;
            Check.due("dam(-1, n)", x.dam(-1, n, 0, 0), -1);
            Check.due("dam(rows, n)", x.dam(rows, n, 0, 0), -1);
            Check.that("dam(rows - 1, n)", x.dam(rows - 1, n, 0, 0) > 0);
        }
        Check.due("dam(0, 0, 0, 0)", x.dam(0, 0, 0, 0), -1);
        Check.due("dam(0, 6, 0, 0)", x.dam(0, 6, 0, 0), -1);
        Check.due("dam(0, 1, 0, 2)", x.dam(0, 1, 0, 2), -1);
        Check.due("dam(0, 1, 0, -1)", x.dam(0, 1, 0, -1), -1);
        Check.due("what is left over is kept", x.dam(0, 1, 0, 0), 50);
        Check.due("the least that will do", x.dam(0, 1, 0, 1), 2);
        TurnedRivers none = Check.landOf("places 2;", 1);
        Check.due("BAD ahead of STATE", none.dam(3, 1, 0, 0), -1);
        Check.due("STATE", none.dam(2, 1, 0, 0), -2);
    }
}
