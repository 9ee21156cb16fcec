/** Edges of promises 20 to 26: THE LAKE, ALONE, SHARES, the treaty. */
public final class EdgeLakeTest {
    /** ALONE in a wet YEAR: 4, 8 and 16 for single TOWNS, added for sets, as each has its own RIVER. */
    private static final String THREE = "places 3;river 0 0 1 1 1 1 0 0 0 0 9 9 9 9;river 1 0 1 1 1 1 0 0 0 0 9 9 9 9;"
            + "river 2 0 1 1 1 1 0 0 0 0 9 9 9 9;town 0 1 1 0 0;town 1 1 2 0 0;town 2 1 4 0 0;";

    public static void main(String[] args) {
        lakeRanges();
        lakeEachByItself();
        levelRanges();
        levelIsNotBelowNothing();
        levelOnlyAsks();
        holdRanges();
        holdTheLeast();
        holdNone();
        holdBehindEach();
        saltyRounded();
        saltyNone();
        aloneSets();
        aloneOthersWantNothing();
        aloneAllWorksAreDug();
        shareRange();
        shareWhose();
        treatyWhat();
        treatyWithoutTown();
        treatyGreatest();
        treatyOfSeveral();
        treatyStable();
        treatyOfFour();
        Check.end("EdgeLakeTest");
    }

    private static TurnedRivers lake(int level, int salt, int sun) {
        TurnedRivers x = new TurnedRivers();
        x.lake(0, level);
        x.lake(1, salt);
        x.lake(2, sun);
        return x;
    }

    /** "LEVEL (0 .. 999), SALT (0 .. 999), loses SUN (0 .. 99 units)": "becomes v: what it was. BAD." */
    private static void lakeRanges() {
        Edge.range("lake LEVEL", 0, 999, Edge.BAD, (x, v) -> x.lake(0, v));
        Edge.range("lake SALT", 0, 999, Edge.BAD, (x, v) -> x.lake(1, v));
        Edge.range("lake SUN", 0, 99, Edge.BAD, (x, v) -> x.lake(2, v));
        Edge.range("lake what", 0, 2, Edge.BAD, (x, v) -> x.lake(v, 50));
        Edge.refused("lake, both wrong", Edge.BAD, x -> x.lake(3, 1000));
        Edge.refused("lake SUN 999", Edge.BAD, x -> x.lake(2, 999));
    }

    private static void lakeEachByItself() {
        TurnedRivers x = lake(999, 998, 99);
        Check.due("SUN", x.lake(2, 0), 99);
        Check.due("SALT", x.lake(1, 0), 998);
        Check.due("LEVEL", x.lake(0, 999), 999);
        Check.due("SUN is 0", x.lake(2, 99), 0);
        Check.due("SALT is 0", x.lake(1, 999), 0);
        Check.due("too much is refused", x.lake(0, 1000), Edge.BAD);
        Check.due("LEVEL stays", x.lake(0, 0), 999);
        Check.due("LEVEL is 0", x.lake(0, 0), 0);
    }

    /** "TIMES n (1 .. 40) with u units (0 .. 99)". */
    private static void levelRanges() {
        Edge.range("level n", 1, 40, Edge.BAD, (x, v) -> x.level(v, 5));
        Edge.range("level u", 0, 99, Edge.BAD, (x, v) -> x.level(3, v));
        Edge.refused("level, both wrong", Edge.BAD, x -> x.level(0, 100));
        TurnedRivers x = lake(999, 0, 0);
        Check.due("far above 999", x.level(40, 99), 999 + 40 * 99);
        Check.due("once", x.level(1, 99), 1098);
        Check.due("nothing comes, nothing goes", x.level(40, 0), 999);
        Check.due("new: level", new TurnedRivers().level(40, 0), 0);
        Check.due("new: level", new TurnedRivers().level(1, 99), 99);
    }

    /** "each SEASON it gets units, then loses SUN (LEVEL 0 at least)". */
    private static void levelIsNotBelowNothing() {
        TurnedRivers x = lake(10, 0, 9);
        Check.due("one left", x.level(1, 0), 1);
        Check.due("nothing left", x.level(2, 0), 0);
        Check.due("nothing left for long", x.level(40, 0), 0);
        Check.due("gets ahead of losing", x.level(2, 8), 8);
        Check.due("down to nothing", x.level(10, 8), 0);
        Check.due("and not below it", x.level(40, 8), 0);
        Check.due("held", x.level(40, 9), 10);
        TurnedRivers dry = lake(0, 0, 99);
        Check.due("all lost at once", dry.level(1, 98), 0);
        Check.due("as much as comes", dry.level(40, 99), 0);
        TurnedRivers low = lake(5, 0, 10);
        Check.due("what comes counts ahead of SUN", low.level(1, 6), 1);
        Check.due("what comes is just enough", low.level(1, 5), 0);
    }

    private static void levelOnlyAsks() {
        Edge.unchanged("level", Edge::rich, x -> x.level(40, 0), 0);
        Edge.unchanged("level", Edge::rich, x -> x.level(40, 99), 40 + 40 * 94);
        Edge.unchanged("hold", Edge::rich, x -> x.hold(999, 1), Edge.NONE);
        Edge.unchanged("hold", Edge::rich, x -> x.hold(40, 40), 5);
        Edge.unchanged("salty", Edge::rich, TurnedRivers::salty, 225);
    }

    /** "BAD (L 0 .. 999)", "each of n SEASONS". */
    private static void holdRanges() {
        Edge.range("hold L", 0, 999, Edge.BAD, (x, v) -> x.hold(v, 5));
        Edge.range("hold n", 1, 40, Edge.BAD, (x, v) -> x.hold(30, v));
        Edge.refused("hold, both wrong", Edge.BAD, x -> x.hold(1000, 0));
        Check.due("new: hold nothing", new TurnedRivers().hold(0, 40), 0);
        Check.due("new: hold 99", new TurnedRivers().hold(99, 1), 99);
        Check.due("new: hold 100", new TurnedRivers().hold(100, 1), Edge.NONE);
    }

    /** "the least u (0 .. 99)". */
    private static void holdTheLeast() {
        TurnedRivers x = lake(50, 0, 99);
        Check.due("all of 99", x.hold(50, 40), 99);
        Check.due("98 in one season", x.hold(49, 1), 98);
        Check.due("nothing need be held", x.hold(0, 40), 0);
        Check.due("one", x.hold(1, 1), 50);
        Check.due("one, twice", x.hold(1, 2), 75);
        Check.due("one, 40 times", x.hold(1, 40), 98);
        TurnedRivers still = lake(999, 0, 0);
        Check.due("without SUN", still.hold(999, 40), 0);
        Check.due("without SUN", still.hold(0, 1), 0);
    }

    /** "NONE". */
    private static void holdNone() {
        TurnedRivers x = lake(50, 0, 99);
        Check.due("one more than it is", x.hold(51, 1), Edge.NONE);
        Check.due("one more than it is, for long", x.hold(51, 40), Edge.NONE);
        Check.due("the greatest L", x.hold(999, 1), Edge.NONE);
        TurnedRivers rise = lake(900, 0, 0);
        Check.due("the greatest L, by 99", rise.hold(999, 1), 99);
        rise.lake(0, 899);
        Check.due("one too low", rise.hold(999, 1), Edge.NONE);
        Check.due("also behind 40, as the first counts", rise.hold(999, 40), Edge.NONE);
    }

    /** "by which LEVEL is L at least behind each of n SEASONS". */
    private static void holdBehindEach() {
        TurnedRivers sinks = lake(100, 0, 10);
        Check.due("one season", sinks.hold(90, 1), 0);
        Check.due("two seasons", sinks.hold(90, 2), 5);
        Check.due("ten seasons", sinks.hold(90, 10), 9);
        Check.due("eleven seasons", sinks.hold(90, 11), 10);
        TurnedRivers rises = lake(0, 0, 1);
        Check.due("rises: the first season counts", rises.hold(5, 40), 6);
        Check.due("rises: the first season counts", rises.hold(98, 40), 99);
        Check.due("rises: too little in the first", rises.hold(99, 40), Edge.NONE);
    }

    /** "SALT times 1000 by LEVEL, rounded down". */
    private static void saltyRounded() {
        int[][] cases = {
            {1, 999, 999000}, {999, 999, 1000}, {999, 998, 998}, {999, 1, 1}, {1, 0, 0}, {999, 0, 0}, {3, 2, 666},
            {7, 999, 142714}, {998, 1, 1}, {2, 1, 500}, {501, 1, 1}, {334, 1, 2}, {333, 1, 3},
        };
        for (int[] c : cases) {
            Check.due("salty of LEVEL " + c[0] + ", SALT " + c[1], lake(c[0], c[1], 99).salty(), c[2]);
        }
    }

    /** "(NONE: LEVEL 0)". */
    private static void saltyNone() {
        Check.due("new: salty", new TurnedRivers().salty(), Edge.NONE);
        Check.due("LEVEL 0, SALT 999", lake(0, 999, 0).salty(), Edge.NONE);
        Check.due("LEVEL 0, SALT 0", lake(0, 0, 0).salty(), Edge.NONE);
        TurnedRivers x = lake(1, 0, 0);
        Check.due("LEVEL 1, SALT 0", x.salty(), 0);
        x.lake(0, 0);
        Check.due("LEVEL 0 again", x.salty(), Edge.NONE);
    }

    /** "BAD (a set of TOWNS that there are; 0 well)". */
    private static void aloneSets() {
        Edge.range("alone kind", 0, 2, Edge.BAD, (x, v) -> x.alone(v, 1));
        Edge.range("alone set", 0, 3, Edge.BAD, (x, v) -> x.alone(0, v));
        Edge.refused("alone, both wrong", Edge.BAD, x -> x.alone(3, 4));
        Edge.unchanged("alone of nobody", Edge::rich, x -> x.alone(0, 0), 0);
        TurnedRivers bare = new TurnedRivers();
        Check.due("new: nobody", bare.alone(0, 0), 0);
        Check.due("new: a town", bare.alone(0, 1), Edge.BAD);
        Check.due("new: nobody, kind 3", bare.alone(3, 0), Edge.BAD);
        Check.due("new: -1", bare.alone(0, -1), Edge.BAD);
        StringBuilder text = new StringBuilder("places 4;");
        for (int towns = 0; towns <= 4; towns++) {
            TurnedRivers x = Check.landOf(text.toString(), towns + 1);
            for (int set = -1; set <= 32; set++) {
                Check.due("set " + set + " of " + towns, x.alone(2, set), set >= 0 && set < 1 << towns ? 0 : Edge.BAD);
            }
            text.append("town ").append(towns).append(" 1 1 1 1;");
        }
    }

    /** "the MOST that comes, if others want nothing". */
    private static void aloneOthersWantNothing() {
        TurnedRivers x = Check.landOf(THREE, 7);
        for (int set = 0; set < 8; set++) {
            Check.due("alone of " + set, x.alone(0, set), 4 * set);
            Check.due("alone of " + set + " without water", x.alone(1, set), 0);
            Check.due("alone of " + set + " with more than is wanted", x.alone(2, set), 4 * set);
        }
        TurnedRivers one = Check.landOf("places 2;river 0 0 2 2 2 2 2 2 2 2 2 2 2 2;town 0 9 9 0 0;town 1 9 8 0 0;"
                + "work 0 1 9 0 0 1;", 5);
        Check.due("the first has all", one.alone(0, 1), 4 * 18);
        Check.due("the second has all", one.alone(0, 2), 4 * 16);
        Check.due("both", one.alone(0, 3), 4 * 18);
    }

    /** "all WORKS dug". */
    private static void aloneAllWorksAreDug() {
        StringBuilder text = new StringBuilder("places 2;river 0 0 9 9 9 9 9 9 9 9 9 9 9 9;town 1 9 1 0 0;");
        for (int w = 0; w < 8; w++) {
            text.append("work 0 1 1 0 0 1;");
            Check.due("alone by " + (w + 1), Check.landOf(text.toString(), w + 4).alone(0, 1), 4 * (w + 1));
        }
    }

    /** "SHARES are told (coins for each TOWN, 0 .. 9999)": "becomes v: what it was. BAD." */
    private static void shareRange() {
        Edge.range("share v", 0, 9999, Edge.BAD, (x, v) -> x.share(0, v));
        Edge.range("share v of the last", 0, 9999, Edge.BAD, (x, v) -> x.share(1, v));
        TurnedRivers x = Check.landOf(THREE, 7);
        for (int t = 0; t < 3; t++) {
            Check.due("0 at first", x.share(t, 9999 - t), 0);
        }
        for (int t = 0; t < 3; t++) {
            Check.due("10000 is refused", x.share(t, 10000), Edge.BAD);
            Check.due("each by itself", x.share(t, 0), 9999 - t);
            Check.due("0 again", x.share(t, 0), 0);
        }
    }

    private static void shareWhose() {
        Edge.range("share t", 0, 1, Edge.BAD, (x, v) -> x.share(v, 5));
        Edge.refused("share, both wrong", Edge.BAD, x -> x.share(2, 10000));
        Check.due("new: no town", new TurnedRivers().share(0, 0), Edge.BAD);
    }

    /** "The greatest COMPLAINT (what = 0), the set (1), STABLE (2). NO: BAD". */
    private static void treatyWhat() {
        Edge.range("treaty what", 0, 2, Edge.NO, (x, v) -> x.treaty(0, v));
        for (int what = 0; what < 3; what++) {
            int asked = what;
            Edge.range("treaty kind", 0, 2, Edge.NO, (x, v) -> x.treaty(v, asked));
        }
        Edge.refused("treaty, both wrong", Edge.NO, x -> x.treaty(3, 3));
    }

    /** "or there is no TOWN". */
    private static void treatyWithoutTown() {
        for (int kind = -1; kind <= 3; kind++) {
            for (int what = -1; what <= 3; what++) {
                int k = kind;
                int w = what;
                Edge.unchanged("new: treaty", TurnedRivers::new, x -> x.treaty(k, w), Edge.NO);
            }
        }
        TurnedRivers gone = Edge.rich();
        gone.clear();
        gone.land();
        Check.due("towns that are gone", gone.treaty(0, 0), Edge.NO);
        TurnedRivers one = Check.landOf("places 1;town 0 0 0 0 0;", 2);
        Check.due("one town that wants nothing", one.treaty(0, 0), 0);
        Check.due("its set", one.treaty(0, 1), 1);
        Check.due("it is stable", one.treaty(0, 2), 1);
        one.share(0, 1);
        Check.due("below 0", one.treaty(0, 0), -1);
        Check.due("a share that nothing brings", one.treaty(0, 2), 0);
    }

    /** "COMPLAINT of a set: ALONE less its SHARES; the greatest of all sets but the empty one". */
    private static void treatyGreatest() {
        TurnedRivers x = Check.landOf(THREE, 7);
        Check.due("no shares: all complain", x.treaty(0, 0), 28);
        Check.due("no shares: all", x.treaty(0, 1), 7);
        x.share(0, 5);
        Check.due("the first has one too many", x.treaty(0, 0), 24);
        Check.due("the others complain", x.treaty(0, 1), 6);
        x.share(1, 9);
        Check.due("the third alone", x.treaty(0, 0), 16);
        Check.due("the third alone", x.treaty(0, 1), 4);
        x.share(2, 17);
        Check.due("each has one too many: below 0, as the empty set doesn't count", x.treaty(0, 0), -1);
        Check.due("the least of three", x.treaty(0, 1), 1);
        x.share(0, 9999);
        x.share(1, 9999);
        x.share(2, 9999);
        Check.due("far below 0", x.treaty(0, 0), 16 - 9999);
        Check.due("far below 0", x.treaty(0, 1), 4);
        Check.due("and without water", x.treaty(1, 0), -9999);
        Check.due("and without water", x.treaty(1, 1), 1);
    }

    /** "of several the least". */
    private static void treatyOfSeveral() {
        TurnedRivers x = Check.landOf(THREE, 7);
        x.share(0, 4);
        Check.due("with the first or without", x.treaty(0, 0), 24);
        Check.due("the set without it is less", x.treaty(0, 1), 6);
        x.share(1, 8);
        Check.due("the third alone is less than with others", x.treaty(0, 1), 4);
        x.share(2, 16);
        Check.due("all as good: the first", x.treaty(0, 1), 1);
        Check.due("and it is 0", x.treaty(0, 0), 0);
        x.share(2, 0);
        x.share(0, 0);
        Check.due("the first and the third", x.treaty(0, 1), 5);
        x.share(0, 5);
        x.share(1, 0);
        x.share(2, 17);
        Check.due("the second alone", x.treaty(0, 1), 2);
        Check.due("the second alone", x.treaty(0, 0), 8);
    }

    /** "STABLE, if it is 0 or less, and all SHARES together are ALONE of all TOWNS at most". */
    private static void treatyStable() {
        TurnedRivers x = Check.landOf(THREE, 7);
        int[] shares = {4, 8, 16};
        for (int t = 0; t < 3; t++) {
            Check.due("not yet", x.treaty(0, 2), 0);
            x.share(t, shares[t]);
        }
        Check.due("just enough", x.treaty(0, 2), 1);
        Check.due("which is complaint 0", x.treaty(0, 0), 0);
        for (int t = 0; t < 3; t++) {
            x.share(t, shares[t] + 1);
            Check.due("one too many for " + t, x.treaty(0, 2), 0);
            Check.due("though nobody complains", x.treaty(0, 0), 0);
            x.share(t, shares[t] - 1);
            Check.due("one too few for " + t, x.treaty(0, 2), 0);
            Check.due("which is complaint 1", x.treaty(0, 0), 1);
            x.share(t, shares[t]);
        }
        Check.due("without water", x.treaty(1, 2), 0);
        TurnedRivers shared = Check.landOf("places 2;river 0 0 9 9 9 9 9 9 9 9 9 9 9 9;town 0 5 1 0 0;town 1 5 1 0 0;"
                + "work 0 1 9 0 0 1;", 5);
        Check.due("alone", shared.alone(0, 1) + shared.alone(0, 2), 40);
        Check.due("together", shared.alone(0, 3), 36);
        shared.share(0, 18);
        shared.share(1, 18);
        Check.due("all is shared, and each would leave", shared.treaty(0, 0), 2);
        Check.due("so it is not stable", shared.treaty(0, 2), 0);
        shared.share(0, 20);
        shared.share(1, 20);
        Check.due("nobody would leave", shared.treaty(0, 0), 0);
        Check.due("but it is more than there is", shared.treaty(0, 2), 0);
    }

    private static void treatyOfFour() {
        StringBuilder text = new StringBuilder("places 4;");
        for (int p = 0; p < 4; p++) {
            text.append("river ").append(p).append(" 0 30 30 30 30 30 30 30 30 30 30 30 30;");
            text.append("town ").append(p).append(" 9 99 9 99;");
        }
        TurnedRivers x = Check.landOf(text.toString(), 9);
        int each = 4 * 18 * 99;
        Check.due("the greatest complaint there can be", x.treaty(2, 0), 4 * each);
        Check.due("of all four", x.treaty(2, 1), 15);
        for (int t = 0; t < 4; t++) {
            x.share(t, each);
        }
        Check.due("all four have theirs", x.treaty(2, 2), 1);
        x.share(3, each - 1);
        Check.due("the fourth has one too few", x.treaty(2, 1), 8);
        x.share(3, 9999);
        Check.due("the fourth has more", x.treaty(2, 2), 0);
        Check.due("the least set that has no complaint", x.treaty(2, 1), 1);
    }
}
