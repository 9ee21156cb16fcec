/** Edges of promises 5 to 8 and 30: what a LAND is asked for, KEEP, and what is counted. */
public final class EdgeLandTest {
    private static final String EIGHT = "places 8;river 7 30 30 1 2 3 4 5 6 7 8 9 10 0;river 0 0 0 0 0 0 0 0 0 0 0 0 0 30;";

    public static void main(String[] args) {
        givesWhere();
        givesWithoutRiver();
        keepRange();
        keepWhere();
        keepBelowAndAbove();
        townFacts();
        towns();
        workFacts();
        works();
        counts();
        countOfAll();
        countOfTheText();
        Check.end("EdgeLandTest");
    }

    /** "What the RIVER at a PLACE gives .. BAD": each of PLACE, KIND, SEASON at both ends. */
    private static void givesWhere() {
        Edge.range("gives place", 0, 3, Edge.BAD, (x, v) -> x.gives(v, 0, 0));
        Edge.range("gives kind", 0, 2, Edge.BAD, (x, v) -> x.gives(0, v, 0));
        Edge.range("gives season", 0, 3, Edge.BAD, (x, v) -> x.gives(0, 0, v));
        Edge.refused("gives, all wrong", Edge.BAD, x -> x.gives(Edge.MIN, Edge.MAX, Edge.MIN));
        TurnedRivers x = Check.landOf(EIGHT, 3);
        Check.due("the first number", x.gives(7, 0, 0), 30);
        Check.due("the last number", x.gives(7, 2, 3), 0);
        Check.due("the last number of the first place", x.gives(0, 2, 3), 30);
        Check.due("of eight places the last", x.gives(7, 1, 0), 4);
        Check.due("of eight places a ninth", x.gives(8, 0, 0), Edge.BAD);
        TurnedRivers one = new TurnedRivers();
        Check.due("of one place the last", one.gives(0, 0, 0), 0);
        Check.due("of one place a second", one.gives(1, 0, 0), Edge.BAD);
    }

    /** "(0 without one)". */
    private static void givesWithoutRiver() {
        TurnedRivers x = Check.landOf(EIGHT, 3);
        for (int i = 0; i < 12; i++) {
            for (int place = 1; place < 7; place++) {
                Check.due("gives without a river", x.gives(place, i / 4, i % 4), 0);
            }
        }
        x.keep(7, 0);
        Check.due("KEEP doesn't count", x.gives(7, 0, 0), 30);
        x.keep(7, 30);
        Check.due("KEEP doesn't count", x.gives(7, 0, 1), 1);
    }

    /** "KEEP of a PLACE becomes v (0 .. 30): what it was." */
    private static void keepRange() {
        Edge.range("keep v", 0, 30, Edge.BAD, (x, v) -> x.keep(0, v));
        TurnedRivers x = Check.landOf(EIGHT, 3);
        Check.due("what the text told", x.keep(7, 0), 30);
        Check.due("the least", x.keep(7, 30), 0);
        Check.due("the greatest", x.keep(7, 17), 30);
        Check.due("too much", x.keep(7, 31), Edge.BAD);
        Check.due("too little", x.keep(7, -1), Edge.BAD);
        Check.due("it stays", x.keep(7, 17), 17);
        Check.due("of another river", x.keep(0, 5), 0);
        Check.due("each by itself", x.keep(7, 0), 17);
        Check.due("each by itself", x.keep(0, 0), 5);
    }

    /** "BAD: no RIVER there, too." */
    private static void keepWhere() {
        Edge.refused("keep where no river is", Edge.BAD, x -> x.keep(1, 0));
        Edge.refused("keep where no river is", Edge.BAD, x -> x.keep(3, 30));
        int[] beyond = {-1, 4, 8, 256, 258, 65536, Edge.MIN, Edge.MIN + 2, Edge.MAX};
        for (int place : beyond) {
            Edge.refused("keep at " + place, Edge.BAD, x -> x.keep(place, 0));
        }
        Check.due("keep in a new object", new TurnedRivers().keep(0, 0), Edge.BAD);
        TurnedRivers x = Check.landOf(EIGHT, 3);
        for (int place = 1; place < 7; place++) {
            Check.due("keep between rivers", x.keep(place, 0), Edge.BAD);
        }
        Check.due("no water came", x.price(0, 0, 0, 1), 0);
    }

    /** "of which KEEP must stay (what is more may be sent)": less, as much, one more. */
    private static void keepBelowAndAbove() {
        TurnedRivers x = Check.landOf("places 1;river 0 0 0 1 29 30 0 1 29 30 0 1 29 30;town 0 9 1 9 1;", 3);
        int[] keeps = {0, 1, 29, 30};
        int[][] brings = {{0, 1, 18, 18}, {0, 0, 18, 18}, {0, 0, 0, 1}, {0, 0, 0, 0}};
        for (int i = 0; i < 4; i++) {
            x.keep(0, keeps[i]);
            for (int season = 0; season < 4; season++) {
                Check.due("keep " + keeps[i] + ", season " + season, x.most(1, season, 0), brings[i][season]);
            }
        }
    }

    /** "Of a TOWN: 0 PLACE, 1 W, 2 V, 3 X, 4 Y. BAD." */
    private static void townFacts() {
        Edge.range("town what", 0, 4, Edge.BAD, (x, v) -> x.town(0, v));
        Edge.range("town what of the last", 0, 4, Edge.BAD, (x, v) -> x.town(1, v));
        TurnedRivers x = Check.landOf("places 8;town 7 9 99 8 98;town 0 0 0 0 0;", 3);
        int[] facts = {7, 9, 99, 8, 98};
        for (int what = 0; what < 5; what++) {
            Check.due("town 0, " + what, x.town(0, what), facts[what]);
            Check.due("town 1, " + what, x.town(1, what), 0);
        }
    }

    /** "TOWNS are numbered from 0, 4 at most". */
    private static void towns() {
        Edge.range("town t", 0, 1, Edge.BAD, (x, v) -> x.town(v, 0));
        StringBuilder text = new StringBuilder("places 8;");
        for (int n = 0; n <= 4; n++) {
            TurnedRivers x = Check.landOf(text.toString(), n + 1);
            for (int t = -1; t <= 5; t++) {
                Check.due("town " + t + " of " + n, x.town(t, 0), t >= 0 && t < n ? 7 - t : Edge.BAD);
                Check.due("share of " + t + " of " + n, x.share(t, 0), t >= 0 && t < n ? 0 : Edge.BAD);
            }
            text.append("town ").append(7 - n).append(" 1 1 1 1;");
        }
    }

    /** "Of a WORK: 0, 1 its PLACES, 2 BREADTH, 3 TOLL, 4 COST, 5 DIG. BAD." */
    private static void workFacts() {
        Edge.range("work what", 0, 5, Edge.BAD, (x, v) -> x.work(0, v));
        Edge.range("work what of the last", 0, 5, Edge.BAD, (x, v) -> x.work(2, v));
        TurnedRivers x = Check.landOf("places 8;work 7 0 30 20 99 5;work 0 7 1 0 0 1;", 3);
        int[] greatest = {7, 0, 30, 20, 99, 5};
        int[] least = {0, 7, 1, 0, 0, 1};
        for (int what = 0; what < 6; what++) {
            Check.due("work 0, " + what, x.work(0, what), greatest[what]);
            Check.due("work 1, " + what, x.work(1, what), least[what]);
        }
    }

    /** "WORKS 0 .. (8 at most)". */
    private static void works() {
        Edge.range("work w", 0, 2, Edge.BAD, (x, v) -> x.work(v, 0));
        StringBuilder text = new StringBuilder("places 8;");
        for (int n = 0; n <= 8; n++) {
            TurnedRivers x = Check.landOf(text.toString(), n + 1);
            for (int w = -1; w <= 9; w++) {
                Check.due("work " + w + " of " + n, x.work(w, 4), w >= 0 && w < n ? 9 - w : Edge.BAD);
                Check.due("sending " + w + " of " + n, x.send(w, 0), w >= 0 && w < n ? 0 : Edge.BAD);
            }
            text.append("work 0 1 1 1 ").append(9 - n).append(" 1;");
        }
    }

    /** "0 PLACES, 1 TOWNS, 2 WORKS, 3 units THE DAM holds (0: none), 4 bytes of THE TEXT. BAD." */
    private static void counts() {
        Edge.range("count what", 0, 4, Edge.BAD, (x, v) -> x.count(v));
        int[] want = {4, 2, 3, 6, Edge.BEGUN.length()};
        for (int what = 0; what < 5; what++) {
            int asked = what;
            Edge.unchanged("count " + what, Edge::rich, x -> x.count(asked), want[what]);
        }
    }

    private static void countOfAll() {
        for (int n = 1; n <= 8; n++) {
            Check.due("places " + n, Check.landOf("places " + n + ";", 1).count(0), n);
        }
        for (int units = 1; units <= 9; units++) {
            Check.due("dam " + units, Check.landOf("places 2;dam 1 " + units + ";", 2).count(3), units);
        }
        Check.due("no dam", Check.landOf("places 2;", 1).count(3), 0);
        StringBuilder works = new StringBuilder("places 8;");
        for (int n = 0; n <= 8; n++) {
            Check.due("works", Check.landOf(works.toString(), n + 1).count(2), n);
            works.append("work 0 1 1 1 1 1;");
        }
        StringBuilder towns = new StringBuilder("places 8;");
        for (int n = 0; n <= 4; n++) {
            Check.due("towns", Check.landOf(towns.toString(), n + 1).count(1), n);
            towns.append("town ").append(n).append(" 0 0 0 0;");
        }
    }

    private static void countOfTheText() {
        int[] lengths = {0, 1, 8, 9, 399, 400};
        for (int bytes : lengths) {
            Check.due("bytes", Edge.withText(bytes).count(4), bytes);
        }
        TurnedRivers x = Edge.withText(400);
        x.type(0, 1);
        Check.due("bytes when full", x.count(4), 400);
        x.land();
        Check.due("bytes behind land()", x.count(4), 0);
    }
}
