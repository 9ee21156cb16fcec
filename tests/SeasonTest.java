import java.util.Random;

/** Promises 9 to 14: MOST, PRICE, EDGE, DELTA, THE SENDING. */
public final class SeasonTest {
    public static void main(String[] args) {
        Random r = new Random(11);
        for (int i = 0; i < 150; i++) {
            allSendings(Model.byChance(r, true), r);
        }
        for (int i = 0; i < 200; i++) {
            oneMore(Model.byChance(r, i % 3 == 0), r);
            sendings(Model.byChance(r, i % 2 == 0), r);
        }
        for (int i = 0; i < 6000; i++) {
            Model m = Model.crowded(r);
            Check.due("most of " + m.text(), Check.landOf(m).most(0, 0, 255), m.most(0, 0, 255));
        }
        takenBack();
        edges();
        wrong();
        wrongSendings();
        troubles();
        Check.end("SeasonTest");
    }

    private static void allSendings(Model m, Random r) {
        TurnedRivers x = Check.landOf(m);
        int dug = r.nextInt(256);
        for (int kind = 0; kind < 3; kind++) {
            int season = r.nextInt(4);
            int want = m.mostOfAllSendings(m.supply(kind, season), dug);
            Check.due("most of " + m.text() + kind + season + dug, x.most(kind, season, dug), want);
            Check.due("the model's most", m.most(kind, season, dug), want);
        }
    }

    private static void oneMore(Model m, Random r) {
        TurnedRivers x = Check.landOf(m);
        for (int i = 0; i < 4; i++) {
            int kind = r.nextInt(3);
            int season = r.nextInt(4);
            int dug = i == 0 ? -1 : r.nextInt(512);
            int most = m.most(kind, season, dug);
            String call = " " + kind + " " + season + " " + dug + " of " + m.text();
            Check.due("most" + call, x.most(kind, season, dug), most);
            for (int p = 0; p < m.places; p++) {
                int[] more = m.supply(kind, season);
                more[p]++;
                Check.due("price " + p + call, x.price(kind, season, dug, p), m.most(more, dug, 15, -1) - most);
                int want = -1;
                if (m.gives[p] != null) {
                    m.keep[p]++;
                    want = most - m.most(kind, season, dug);
                    m.keep[p]--;
                }
                Check.due("delta " + p + call, x.delta(kind, season, dug, p), want);
            }
            for (int w = 0; w < m.works; w++) {
                int broader = m.most(m.supply(kind, season), dug, 15, w) - most;
                Check.due("edge " + w + call, x.edge(kind, season, dug, w), (dug >> w & 1) != 0 ? broader : -1);
            }
        }
    }

    private static void sendings(Model m, Random r) {
        TurnedRivers x = Check.landOf(m);
        int[] sent = new int[8];
        for (int i = 0; i < 30 && m.works > 0; i++) {
            int w = r.nextInt(m.works);
            int v = r.nextInt(r.nextBoolean() ? 31 : m.work[w][2] + 1);
            Check.due("send", x.send(w, v), sent[w]);
            sent[w] = v;
            int kind = r.nextInt(3);
            int season = r.nextInt(4);
            int[] supply = m.supply(kind, season);
            int trouble = -9;
            int where = -9;
            for (int p = m.places - 1; p >= 0; p--) {
                if (m.stays(supply, sent, p) < 0) {
                    trouble = 2;
                    where = p;
                }
            }
            for (int k = m.works - 1; k >= 0; k--) {
                if (sent[k] > m.work[k][2]) {
                    trouble = 1;
                    where = k;
                }
            }
            Check.due("judge 0 of " + m.text(), x.judge(kind, season, 0), trouble);
            Check.due("judge 1 of " + m.text(), x.judge(kind, season, 1), where);
            Check.due("judge 2 of " + m.text(), x.judge(kind, season, 2), m.brings(supply, sent));
        }
    }

    /** The best path takes the only WORK by which the other RIVER's unit can come: it must be taken back. */
    private static void takenBack() {
        TurnedRivers x = Check.landOf("places 4;river 0 0 1 1 1 1 1 1 1 1 1 1 1 1;river 1 0 1 1 1 1 1 1 1 1 1 1 1 1;"
                + "town 3 2 50 0 0;work 0 2 1 2 0 1;work 2 3 1 0 0 1;work 0 3 1 3 0 1;work 1 2 1 5 0 1;", 8);
        Check.due("most", x.most(0, 0, 15), 50 - 3 + 50 - 5);
        Check.due("most without a way round", x.most(0, 0, 11), 50 - 2);
        TurnedRivers turned = Check.landOf("places 4;river 0 0 1 1 1 1 1 1 1 1 1 1 1 1;"
                + "river 1 0 1 1 1 1 1 1 1 1 1 1 1 1;town 3 2 50 0 0;"
                + "work 0 3 1 3 0 1;work 0 2 1 2 0 1;work 1 2 1 5 0 1;work 2 3 1 0 0 1;", 8);
        Check.due("most, works told in another order", turned.most(0, 0, 15), 50 - 3 + 50 - 5);
    }

    private static void edges() {
        TurnedRivers x = Check.landOf("places 2;river 0 30 30 30 30 30 30 30 30 30 30 30 30 30;"
                + "town 1 9 10 9 5;work 0 1 30 10 1 1;work 0 1 30 9 1 1;", 5);
        Check.due("most with all kept", x.most(0, 0, 3), 0);
        Check.due("delta of KEEP 30", x.delta(0, 0, 3, 0), 0);
        x.keep(0, 29);
        Check.due("a toll as high as the worth", x.most(0, 0, 1), 0);
        Check.due("one coin", x.most(0, 0, 3), 1);
        Check.due("delta to KEEP 30", x.delta(0, 0, 3, 0), 1);
        x.keep(0, 0);
        Check.due("nine coins", x.most(0, 0, 255), 9);
        Check.due("edge of BREADTH 30", x.edge(0, 0, 3, 1), 0);
    }

    private static void wrong() {
        TurnedRivers x = Check.landOf("places 2;river 0 0 9 9 9 9 9 9 9 9 9 9 9 9;town 1 9 10 9 5;work 0 1 3 1 1 1;", 4);
        int[][] bad = {{-1, 0}, {3, 0}, {0, -1}, {0, 4}, {Integer.MIN_VALUE, 0}, {0, Integer.MAX_VALUE}};
        for (int[] b : bad) {
            Check.due("most", x.most(b[0], b[1], 1), -1);
            Check.due("price", x.price(b[0], b[1], 1, 0), -1);
            Check.due("edge", x.edge(b[0], b[1], 1, 0), -1);
            Check.due("delta", x.delta(b[0], b[1], 1, 0), -1);
            for (int what = 0; what < 3; what++) {
                Check.due("judge", x.judge(b[0], b[1], what), -1000000);
            }
        }
        Check.due("price of no place", x.price(0, 0, 1, 2), -1);
        Check.due("price of no place", x.price(0, 0, 1, -1), -1);
        Check.due("edge of no work", x.edge(0, 0, 3, 1), -1);
        Check.due("edge of no work", x.edge(0, 0, -1, -1), -1);
        Check.due("edge of what is not dug", x.edge(0, 0, 254, 0), -1);
        Check.due("edge", x.edge(0, 0, 1, 0), 9);
        Check.due("delta of no river", x.delta(0, 0, 1, 1), -1);
        Check.due("delta of no place", x.delta(0, 0, 1, 2), -1);
        Check.due("delta of no place", x.delta(0, 0, 1, -1), -1);
        Check.due("works that there are not", x.most(0, 0, 254), 0);
        Check.due("works that there are not", x.most(0, 0, 257), 27);
        Check.due("price where nothing wants", x.price(0, 0, 0, 0), 0);
        Check.due("price in the town", x.price(0, 0, 1, 1), 10);
    }

    private static void wrongSendings() {
        TurnedRivers x = Check.landOf("places 2;river 0 0 9 9 9 9 9 9 9 9 9 9 9 9;town 1 9 10 9 5;work 0 1 3 1 1 1;", 4);
        Check.due("judge", x.judge(0, 0, -1), -1000000);
        Check.due("judge", x.judge(0, 0, 3), -1000000);
        Check.due("send", x.send(0, 30), 0);
        Check.due("send", x.send(0, 31), -1);
        Check.due("send", x.send(0, -1), -1);
        Check.due("send", x.send(1, 0), -1);
        Check.due("send", x.send(-1, 0), -1);
        Check.due("send", x.send(0, 0), 30);
    }

    private static void troubles() {
        TurnedRivers x = Check.landOf("places 3;river 1 5 9 9 9 9 9 9 9 9 2 2 2 2;town 1 2 10 9 1;town 2 9 1 0 0;"
                + "work 1 2 4 3 1 1;work 2 0 3 2 1 1;", 6);
        Check.due("a river's own town", x.judge(0, 0, 2), 2 * 10 + 2);
        x.send(0, 4);
        Check.due("all that may go", x.judge(0, 0, 0), -9);
        Check.due("brings", x.judge(0, 0, 2), 4 - 12);
        Check.due("too dry", x.judge(2, 0, 0), 2);
        Check.due("too dry", x.judge(2, 0, 1), 1);
        Check.due("brings all the same", x.judge(2, 0, 2), 4 - 12);
        x.send(1, 4);
        Check.due("too much by the second work", x.judge(2, 0, 0), 1);
        Check.due("too much by the second work", x.judge(2, 0, 1), 1);
        Check.due("brings", x.judge(2, 0, 2), -12 - 8);
    }
}
