import java.util.Random;

/** Promises 20 to 26: THE LAKE, ALONE, SHARES, the treaty. */
public final class LakeTownTest {
    public static void main(String[] args) {
        Random r = new Random(3);
        for (int i = 0; i < 200; i++) {
            lakeByChance(r);
        }
        lakeEdges();
        for (int i = 0; i < 120; i++) {
            towns(Model.byChance(r, i % 3 == 0), r);
        }
        treatyEdges();
        Check.end("LakeTownTest");
    }

    private static void lakeByChance(Random r) {
        TurnedRivers x = new TurnedRivers();
        int level = r.nextInt(r.nextBoolean() ? 1000 : 60);
        int salt = r.nextInt(1000);
        int sun = r.nextInt(100);
        x.lake(0, level);
        x.lake(1, salt);
        x.lake(2, sun);
        Check.due("salty", x.salty(), level == 0 ? -9 : salt * 1000 / level);
        for (int i = 0; i < 10; i++) {
            int n = 1 + r.nextInt(40);
            int u = r.nextInt(100);
            int then = level;
            for (int k = 0; k < n; k++) {
                then = then + u < sun ? 0 : then + u - sun;
            }
            Check.due("level", x.level(n, u), then);
            int least = r.nextInt(r.nextBoolean() ? 1000 : level + 10) % 1000;
            int want = -9;
            for (int try1 = 99; try1 >= 0; try1--) {
                int low = Integer.MAX_VALUE;
                for (int k = 1; k <= n; k++) {
                    low = Math.min(low, x.level(k, try1));
                }
                want = low >= least ? try1 : want;
            }
            Check.due("hold", x.hold(least, n), want);
        }
        Check.due("level stays", x.lake(0, 0), level);
        Check.due("salt stays", x.lake(1, 0), salt);
        Check.due("sun stays", x.lake(2, 0), sun);
    }

    private static void lakeEdges() {
        TurnedRivers x = new TurnedRivers();
        int[] high = {999, 999, 99};
        for (int what = 0; what < 3; what++) {
            Check.due("lake", x.lake(what, -1), -1);
            Check.due("lake", x.lake(what, high[what] + 1), -1);
            Check.due("lake", x.lake(what, high[what]), 0);
            Check.due("lake", x.lake(what, 0), high[what]);
        }
        Check.due("lake(-1, 0)", x.lake(-1, 0), -1);
        Check.due("lake(3, 0)", x.lake(3, 0), -1);
        Check.due("level(0, 0)", x.level(0, 0), -1);
        Check.due("level(41, 0)", x.level(41, 0), -1);
        Check.due("level(1, -1)", x.level(1, -1), -1);
        Check.due("level(1, 100)", x.level(1, 100), -1);
        Check.due("level(40, 99)", x.level(40, 99), 3960);
        Check.due("hold(-1, 1)", x.hold(-1, 1), -1);
        Check.due("hold(1000, 1)", x.hold(1000, 1), -1);
        Check.due("hold(0, 0)", x.hold(0, 0), -1);
        Check.due("hold(0, 41)", x.hold(0, 41), -1);
        Check.due("hold(99, 40)", x.hold(99, 40), 99);
        Check.due("hold(100, 40)", x.hold(100, 40), -9);
        Check.due("salty()", x.salty(), -9);
        x.lake(1, 2);
        x.lake(0, 3);
        Check.due("salty() is rounded down", x.salty(), 666);
        x.lake(0, 1);
        Check.due("salty() of LEVEL 1", x.salty(), 2000);
        x.lake(0, 999);
        Check.due("hold(999, 40)", x.hold(999, 40), 0);
        x.lake(2, 1);
        Check.due("hold(999, 1)", x.hold(999, 1), 1);
        Check.due("hold(998, 1)", x.hold(998, 1), 0);
    }

    private static int alone(Model m, int kind, int set) {
        int sum = 0;
        for (int season = 0; season < 4; season++) {
            sum += m.most(m.supply(kind, season), 255, set, -1);
        }
        return sum;
    }

    private static void towns(Model m, Random r) {
        TurnedRivers x = Check.landOf(m);
        int sets = 1 << m.towns;
        int[] shares = new int[4];
        for (int kind = 0; kind < 3; kind++) {
            int[] alone = new int[sets];
            for (int set = 0; set < sets; set++) {
                alone[set] = alone(m, kind, set);
                Check.due("alone of " + m.text(), x.alone(kind, set), alone[set]);
            }
            Check.due("alone of too many", x.alone(kind, sets), -1);
            Check.due("alone of less than nothing", x.alone(kind, -1), -1);
            for (int i = 0; i < 4; i++) {
                for (int t = 0; t < m.towns; t++) {
                    int v = i == 1 ? alone[1 << t] : i == 2 ? Math.min(9999, alone[sets - 1] / m.towns) : r.nextInt(10000);
                    v = Math.min(9999, v);
                    Check.due("share", x.share(t, v), shares[t]);
                    shares[t] = v;
                }
                treaty(m, x, kind, alone, shares);
            }
        }
        Check.due("alone(-1, 0)", x.alone(-1, 0), -1);
        Check.due("alone(3, 0)", x.alone(3, 0), -1);
    }

    private static void treaty(Model m, TurnedRivers x, int kind, int[] alone, int[] shares) {
        if (m.towns == 0) {
            for (int what = 0; what < 3; what++) {
                Check.due("treaty without towns", x.treaty(kind, what), -1000000);
            }
            return;
        }
        int worst = Integer.MIN_VALUE;
        int worstSet = 0;
        int all = 0;
        for (int set = alone.length - 1; set > 0; set--) {
            int mine = 0;
            for (int t = 0; t < m.towns; t++) {
                mine += (set >> t & 1) * shares[t];
            }
            all = Math.max(all, mine);
            if (alone[set] - mine >= worst) {
                worst = alone[set] - mine;
                worstSet = set;
            }
        }
        Check.due("treaty 0 of " + m.text(), x.treaty(kind, 0), worst);
        Check.due("treaty 1 of " + m.text(), x.treaty(kind, 1), worstSet);
        Check.due("treaty 2 of " + m.text(), x.treaty(kind, 2), worst <= 0 && all <= alone[alone.length - 1] ? 1 : 0);
    }

    private static void treatyEdges() {
        TurnedRivers x = Check.landOf("places 2;river 0 0 4 4 4 4 0 0 0 0 9 9 9 9;town 0 3 10 0 0;town 1 3 10 0 0;"
                + "work 0 1 9 0 1 1;", 5);
        Check.due("alone", x.alone(0, 1), 120);
        Check.due("alone", x.alone(0, 2), 120);
        Check.due("alone", x.alone(0, 3), 160);
        Check.due("no shares that nobody would leave", x.share(0, 80) + x.share(1, 80), 0);
        Check.due("complaint", x.treaty(0, 0), 40);
        Check.due("of several the least", x.treaty(0, 1), 1);
        Check.due("not stable", x.treaty(0, 2), 0);
        x.share(0, 120);
        x.share(1, 120);
        Check.due("no complaint", x.treaty(0, 0), 0);
        Check.due("but more than there is", x.treaty(0, 2), 0);
        Check.due("dry years, complaint", x.treaty(2, 0), 0);
        Check.due("dry years, stable", x.treaty(2, 2), 1);
        x.share(0, 121);
        Check.due("one coin too many", x.treaty(2, 2), 0);
        Check.due("one below 0", x.treaty(2, 0), 0);
        Check.due("the second town", x.treaty(2, 1), 2);
        x.share(0, 119);
        Check.due("one coin too few", x.treaty(2, 2), 0);
        Check.due("complaint below 0", x.share(0, 9999) + x.share(1, 9999), 119 + 120);
        Check.due("complaint below 0", x.treaty(1, 0), -9999);
        Check.due("treaty(-1, 0)", x.treaty(-1, 0), -1000000);
        Check.due("treaty(3, 0)", x.treaty(3, 0), -1000000);
        Check.due("treaty(0, -1)", x.treaty(0, -1), -1000000);
        Check.due("treaty(0, 3)", x.treaty(0, 3), -1000000);
        Check.due("share(2, 0)", x.share(2, 0), -1);
        Check.due("share(-1, 0)", x.share(-1, 0), -1);
        Check.due("share(0, -1)", x.share(0, -1), -1);
        Check.due("share(0, 10000)", x.share(0, 10000), -1);
        Check.due("share(0, 0)", x.share(0, 0), 9999);
    }
}
