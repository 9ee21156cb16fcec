/** Edges of promises 9 to 14: MOST, PRICE, EDGE, DELTA, THE SENDING, what it is judged. */
public final class EdgeSeasonTest {
    /** A chain from PLACE 0 to 7, each WORK with a TOLL of 1. */
    private static final String CHAIN = "places 8;work 6 7 9 1 1 1;work 5 6 9 1 1 1;work 4 5 9 1 1 1;work 3 4 9 1 1 1;"
            + "work 2 3 9 1 1 1;work 1 2 9 1 1 1;work 0 1 9 1 1 1;";
    private static final int[] SETS = {
        0, 1, 2, 3, 4, 5, 6, 7, 8, 255, 256, 257, 1 << 30, -1, -2, Edge.MIN, Edge.MIN + 1, Edge.MAX, Edge.MAX - 1,
    };

    public static void main(String[] args) {
        seasons();
        dugWorksThatThereAreNot();
        nothingIsTheLeast();
        waterBelowKeep();
        breadths();
        throughAllPlaces();
        roundInCircles();
        wantsOfWorthVFirst();
        greatestSeason();
        priceWhere();
        priceAtFullPlaces();
        edgeOfWhat();
        edgeBeyondThirty();
        deltaWhere();
        deltaOfThirtyOne();
        sendRange();
        sendWhich();
        judgeWhat();
        judgedByBreadth();
        judgedByPlaces();
        judgedAtEachPlace();
        judgedFirst();
        brings();
        bringsWhereMoreGo();
        Check.end("EdgeSeasonTest");
    }

    /** "MOST of a SEASON. BAD.", and the same of PRICE, EDGE, DELTA, JUDGED. */
    private static void seasons() {
        Edge.range("most kind", 0, 2, Edge.BAD, (x, v) -> x.most(v, 0, 7));
        Edge.range("most season", 0, 3, Edge.BAD, (x, v) -> x.most(0, v, 7));
        Edge.range("price kind", 0, 2, Edge.BAD, (x, v) -> x.price(v, 0, 7, 0));
        Edge.range("price season", 0, 3, Edge.BAD, (x, v) -> x.price(0, v, 7, 0));
        Edge.range("edge kind", 0, 2, Edge.BAD, (x, v) -> x.edge(v, 0, 7, 0));
        Edge.range("edge season", 0, 3, Edge.BAD, (x, v) -> x.edge(0, v, 7, 0));
        Edge.range("delta kind", 0, 2, Edge.BAD, (x, v) -> x.delta(v, 0, 7, 0));
        Edge.range("delta season", 0, 3, Edge.BAD, (x, v) -> x.delta(0, v, 7, 0));
        for (int what = 0; what < 3; what++) {
            int asked = what;
            Edge.range("judge kind", 0, 2, Edge.NO, (x, v) -> x.judge(v, 0, asked));
            Edge.range("judge season", 0, 3, Edge.NO, (x, v) -> x.judge(0, v, asked));
        }
        TurnedRivers bare = new TurnedRivers();
        Check.due("new: the last season", bare.most(2, 3, -1), 0);
        Check.due("new: one season more", bare.most(2, 4, -1), Edge.BAD);
        Check.due("new: one kind more", bare.most(3, 3, -1), Edge.BAD);
    }

    /** "DUG: a set of WORKS (bits; those that there are not left out)". */
    private static void dugWorksThatThereAreNot() {
        for (int set : SETS) {
            TurnedRivers x = Edge.rich();
            int there = set & 7;
            Check.due("most of " + set, x.most(0, 0, set), x.most(0, 0, there));
            Check.due("price of " + set, x.price(0, 0, set, 1), x.price(0, 0, there, 1));
            Check.due("delta of " + set, x.delta(0, 0, set, 2), x.delta(0, 0, there, 2));
            for (int w = 0; w < 3; w++) {
                Check.due("edge of " + set, x.edge(0, 0, set, w), x.edge(0, 0, there, w));
            }
            Edge.unchanged("most of " + set, Edge::rich, y -> y.most(0, 0, set), x.most(0, 0, there));
        }
        TurnedRivers none = Check.landOf("places 2;river 0 0 5 5 5 5 5 5 5 5 5 5 5 5;town 1 9 9 9 9;", 3);
        for (int set : SETS) {
            Check.due("most without works, of " + set, none.most(0, 0, set), 0);
        }
        StringBuilder all = new StringBuilder("places 2;river 0 0 9 9 9 9 9 9 9 9 9 9 9 9;town 1 9 1 0 0;");
        for (int w = 0; w < 8; w++) {
            all.append("work 0 1 1 0 0 1;");
        }
        TurnedRivers eight = Check.landOf(all.toString(), 11);
        for (int set : SETS) {
            Check.due("most of eight works, of " + set, eight.most(0, 0, set), Integer.bitCount(set & 255));
        }
    }

    /** "MOST: the greatest sum of WORTHS less TOLLS": nothing need be sent. */
    private static void nothingIsTheLeast() {
        for (int worth = 19; worth <= 21; worth++) {
            TurnedRivers x = Check.landOf("places 2;river 0 0 5 5 5 5 5 5 5 5 5 5 5 5;town 1 9 " + worth
                    + " 9 0;work 0 1 30 20 0 1;", 4);
            Check.due("a worth of " + worth + ", a toll of 20", x.most(0, 0, 1), worth > 20 ? 5 : 0);
            Check.due("its price", x.price(0, 0, 1, 0), worth > 20 ? 1 : 0);
        }
        TurnedRivers free = Check.landOf("places 2;river 0 0 5 5 5 5 5 5 5 5 5 5 5 5;town 1 0 99 9 0;work 0 1 30 0 0 1;", 4);
        Check.due("wants of no units, and of no worth", free.most(0, 0, 1), 0);
        Check.due("their price", free.price(0, 0, 1, 1), 0);
    }

    /** "each RIVER has what it gives less KEEP (0 at least)". */
    private static void waterBelowKeep() {
        TurnedRivers x = Check.landOf("places 2;river 0 5 4 5 6 30 0 0 0 0 0 0 0 0;town 1 9 1 9 1;work 0 1 30 0 0 1;", 4);
        int[] want = {0, 0, 1, 18};
        for (int season = 0; season < 4; season++) {
            Check.due("season " + season, x.most(0, season, 1), want[season]);
        }
        Check.due("a unit more where too little is", x.price(0, 0, 1, 0), 1);
        Check.due("a dry year", x.most(2, 0, 1), 0);
        x.keep(0, 30);
        Check.due("all of 30 kept", x.most(0, 3, 1), 0);
        x.keep(0, 29);
        Check.due("all but one of 30 kept", x.most(0, 3, 1), 1);
    }

    /** "(no more than its BREADTH by each)". */
    private static void breadths() {
        for (int breadth = 1; breadth <= 30; breadth++) {
            TurnedRivers x = Check.landOf("places 2;river 0 0 30 30 30 30 30 30 30 30 30 30 30 30;town 1 9 2 9 1;work 0 1 "
                    + breadth + " 0 0 1;", 4);
            Check.due("breadth " + breadth, x.most(0, 0, 1), Math.min(9, breadth) * 2 + Math.max(0, Math.min(9, breadth - 9)));
            Check.due("edge of breadth " + breadth, x.edge(0, 0, 1, 0), breadth < 9 ? 2 : breadth < 18 ? 1 : 0);
        }
    }

    /** "through as many PLACES as may be, TOLL for each unit". */
    private static void throughAllPlaces() {
        TurnedRivers x = Check.landOf(CHAIN + "river 0 0 4 4 4 4 4 4 4 4 4 4 4 4;town 7 3 10 9 7;", 10);
        Check.due("seven tolls", x.most(0, 0, 127), 3 * (10 - 7));
        Check.due("one work missing", x.most(0, 0, 126), 0);
        Check.due("one work missing", x.most(0, 0, 63), 0);
        int[] prices = {0, 1, 2, 3, 4, 5, 6, 7};
        for (int place = 0; place < 8; place++) {
            Check.due("price at " + place, x.price(0, 0, 127, place), prices[place]);
        }
        x.keep(0, 2);
        for (int place = 0; place < 8; place++) {
            Check.due("price of a want at " + place, x.price(0, 0, 127, place), 3 + place);
        }
    }

    private static void roundInCircles() {
        TurnedRivers x = Check.landOf("places 3;river 0 0 4 4 4 4 4 4 4 4 4 4 4 4;town 2 9 5 0 0;work 0 1 2 0 0 1;"
                + "work 1 0 9 0 0 1;work 1 2 3 0 0 1;work 2 1 9 0 0 1;work 2 0 9 0 0 1;", 8);
        Check.due("circles without toll", x.most(0, 0, 31), 2 * 5);
        Check.due("edge of the narrow one", x.edge(0, 0, 31, 0), 5);
        Check.due("edge of one that leads back", x.edge(0, 0, 31, 1), 0);
    }

    /** "(those of WORTH V first)". */
    private static void wantsOfWorthVFirst() {
        TurnedRivers x = Check.landOf("places 1;river 0 0 0 1 2 3 4 5 6 7 8 9 10 11;town 0 3 9 5 2;", 3);
        int[] want = {0, 9, 18, 27, 29, 31, 33, 35, 37, 37, 37, 37};
        for (int i = 0; i < 12; i++) {
            Check.due("units " + i, x.most(i / 4, i % 4, 0), want[i]);
            Check.due("one unit more than " + i, x.price(i / 4, i % 4, 0, 0), i < 3 ? 9 : i < 8 ? 2 : 0);
        }
        TurnedRivers same = Check.landOf("places 1;river 0 0 18 19 9 10 0 0 0 0 0 0 0 0;town 0 9 99 9 99;", 3);
        Check.due("all that can be wanted", same.most(0, 0, 0), 18 * 99);
        Check.due("and no more", same.most(0, 1, 0), 18 * 99);
        Check.due("half of it", same.most(0, 2, 0), 9 * 99);
        Check.due("half of it, and one", same.most(0, 3, 0), 10 * 99);
    }

    /** As much as four TOWNS can want, and as many units as there can be. */
    private static void greatestSeason() {
        StringBuilder text = new StringBuilder("places 4;");
        for (int p = 0; p < 4; p++) {
            text.append("river ").append(p).append(" 0 30 30 30 30 18 18 18 18 17 17 17 17;");
            text.append("town ").append(p).append(" 9 99 9 99;");
        }
        TurnedRivers x = Check.landOf(text.toString(), 9);
        Check.due("wet", x.most(0, 0, 0), 4 * 18 * 99);
        Check.due("as much as is wanted", x.most(1, 0, 0), 4 * 18 * 99);
        Check.due("one less in each", x.most(2, 3, 0), 4 * 17 * 99);
        Check.due("price", x.price(2, 3, 0, 3), 99);
        Check.due("price of what nobody wants", x.price(1, 3, 0, 3), 0);
        Check.due("delta", x.delta(1, 3, 0, 3), 99);
        Check.due("delta of what nobody wants", x.delta(0, 3, 0, 3), 0);
    }

    /** "PRICE of a PLACE .. BAD." */
    private static void priceWhere() {
        Edge.range("price place", 0, 3, Edge.BAD, (x, v) -> x.price(0, 0, 7, v));
        TurnedRivers bare = new TurnedRivers();
        Check.due("new: place 0", bare.price(0, 0, 0, 0), 0);
        Check.due("new: place 1", bare.price(0, 0, 0, 1), Edge.BAD);
        Edge.unchanged("price changes nothing", Edge::rich, x -> x.price(0, 0, 0, 1), 20);
    }

    /** "with one unit more there": at 30 units, and where no RIVER is. */
    private static void priceAtFullPlaces() {
        TurnedRivers x = Check.landOf("places 2;river 0 0 30 30 30 30 0 0 0 0 0 0 0 0;town 0 9 9 9 9;town 1 9 9 9 9;"
                + "work 0 1 30 1 0 1;", 5);
        Check.due("30 units", x.most(0, 0, 1), 18 * 9 + 12 * 8);
        Check.due("a 31st unit", x.price(0, 0, 1, 0), 8);
        Check.due("where no river is", x.price(0, 0, 1, 1), 9);
        Check.due("no works", x.price(0, 0, 0, 0), 0);
        Check.due("no works, where no river is", x.price(0, 0, 0, 1), 9);
    }

    /** "EDGE of a WORK (that is DUG)": "BAD: it is not DUG, too." */
    private static void edgeOfWhat() {
        Edge.range("edge work", 0, 2, Edge.BAD, (x, v) -> x.edge(0, 0, 7, v));
        Edge.range("edge work, all bits", 0, 2, Edge.BAD, (x, v) -> x.edge(0, 0, -1, v));
        for (int dug = 0; dug < 8; dug++) {
            int set = dug;
            for (int w = 0; w < 3; w++) {
                int work = w;
                if ((dug >> w & 1) == 0) {
                    Edge.refused("edge of " + w + " in " + dug, Edge.BAD, x -> x.edge(0, 0, set, work));
                } else {
                    Check.that("edge of " + w + " in " + dug, Edge.rich().edge(0, 0, dug, w) >= 0);
                }
            }
        }
        int[] others = {8, 248, Edge.MIN, -8, Edge.MAX - 7};
        for (int dug : others) {
            Edge.refused("edge where none is dug: " + dug, Edge.BAD, x -> x.edge(0, 0, dug, 0));
        }
        // A shift by 32 or more is one by its lowest five bits: such a work must not be taken for another.
        int[] wrapped = {32, 33, 34, -32, -31, 64};
        for (int w : wrapped) {
            Edge.refused("edge of work " + w, Edge.BAD, x -> x.edge(0, 0, -1, w));
        }
        Check.due("new: no work", new TurnedRivers().edge(0, 0, -1, 0), Edge.BAD);
        StringBuilder eight = new StringBuilder("places 2;river 0 0 9 9 9 9 9 9 9 9 9 9 9 9;town 1 9 3 0 0;");
        for (int w = 0; w < 8; w++) {
            eight.append("work 0 1 1 0 0 1;");
        }
        TurnedRivers x = Check.landOf(eight.toString(), 11);
        Check.due("the eighth work", x.edge(0, 0, 255, 7), 3);
        Check.due("the eighth work alone", x.edge(0, 0, 128, 7), 3);
        Check.due("the eighth work, not dug", x.edge(0, 0, 127, 7), Edge.BAD);
        Check.due("a ninth", x.edge(0, 0, -1, 8), Edge.BAD);
    }

    /** "BROADER: one of them may have one unit more": of BREADTH 30, too; and that one alone. */
    private static void edgeBeyondThirty() {
        StringBuilder text = new StringBuilder("places 6;");
        text.append("river 0 0 30 30 30 30 30 30 30 30 30 30 30 30;river 1 0 30 30 30 30 30 30 30 30 30 30 30 30;");
        text.append("work 1 0 30 0 0 1;work 0 2 30 0 0 1;town 3 9 9 9 9;town 4 9 9 9 9;work 2 3 9 0 0 1;");
        text.append("work 2 3 9 0 0 1;work 2 4 9 0 0 1;work 2 4 9 0 0 1;");
        TurnedRivers x = Check.landOf(text.toString(), 11);
        Check.due("30 units through one work", x.most(0, 0, 63), 30 * 9);
        Check.due("a 31st unit through it", x.edge(0, 0, 63, 1), 9);
        Check.due("another one is not broader", x.edge(0, 0, 63, 0), 0);
        Check.due("nor is it asked again", x.most(0, 0, 63), 30 * 9);
        Check.due("BREADTH stays", x.work(1, 2), 30);
    }

    /** "DELTA. BAD: no RIVER there, too." */
    private static void deltaWhere() {
        int[] beyond = {-1, 4, 8, 32, 256, 258, 65536, Edge.MIN, Edge.MIN + 2, Edge.MAX, 1, 3};
        for (int place : beyond) {
            Edge.refused("delta at " + place, Edge.BAD, x -> x.delta(0, 0, 7, place));
        }
        Check.that("delta at 0", Edge.rich().delta(0, 0, 7, 0) >= 0);
        Check.that("delta at 2", Edge.rich().delta(0, 0, 7, 2) >= 0);
        Check.due("new: no river", new TurnedRivers().delta(0, 0, 0, 0), Edge.BAD);
    }

    /** "with its KEEP one more (31, too)". */
    private static void deltaOfThirtyOne() {
        TurnedRivers x = Check.landOf("places 1;river 0 30 30 29 0 1 30 30 30 30 30 30 30 30;town 0 9 7 9 3;", 3);
        Check.due("KEEP 30 of 30", x.delta(0, 0, 0, 0), 0);
        Check.due("KEEP 30 of 29", x.delta(0, 1, 0, 0), 0);
        Check.due("KEEP 30 of 0", x.delta(0, 2, 0, 0), 0);
        x.keep(0, 29);
        Check.due("KEEP 29 of 30", x.delta(0, 0, 0, 0), 7);
        Check.due("KEEP 29 of 29", x.delta(0, 1, 0, 0), 0);
        Check.due("KEEP 29 of 0", x.delta(0, 2, 0, 0), 0);
        Check.due("KEEP stays", x.keep(0, 0), 29);
        Check.due("KEEP 0 of 1", x.delta(0, 3, 0, 0), 7);
        Check.due("KEEP 0 of 0", x.delta(0, 2, 0, 0), 0);
        Check.due("KEEP 0 of 30", x.delta(0, 0, 0, 0), 0);
        x.keep(0, 12);
        Check.due("the last of all that are wanted", x.delta(0, 0, 0, 0), 3);
        x.keep(0, 11);
        Check.due("one more than is wanted", x.delta(0, 0, 0, 0), 0);
        x.keep(0, 21);
        Check.due("the last of WORTH V", x.delta(0, 0, 0, 0), 7);
        x.keep(0, 20);
        Check.due("the first of WORTH Y", x.delta(0, 0, 0, 0), 3);
    }

    /** "THE SENDING of a WORK becomes v (0 .. 30): what it was. BAD." */
    private static void sendRange() {
        Edge.range("send v", 0, 30, Edge.BAD, (x, v) -> x.send(0, v));
        Edge.range("send v by the last", 0, 30, Edge.BAD, (x, v) -> x.send(2, v));
        TurnedRivers x = Check.landOf("places 2;work 0 1 1 0 0 1;work 0 1 30 0 0 1;", 3);
        Check.due("nothing at first", x.send(0, 30), 0);
        Check.due("nothing at first", x.send(1, 29), 0);
        Check.due("more than its BREADTH may be told", x.send(0, 0), 30);
        Check.due("each by itself", x.send(1, 30), 29);
        Check.due("31 is refused", x.send(1, 31), Edge.BAD);
        Check.due("it stays", x.send(1, 0), 30);
        Check.due("and is nothing then", x.send(1, 0), 0);
    }

    private static void sendWhich() {
        Edge.range("send work", 0, 2, Edge.BAD, (x, v) -> x.send(v, 4));
        Edge.refused("send, both wrong", Edge.BAD, x -> x.send(3, 31));
        Check.due("new: no work", new TurnedRivers().send(0, 0), Edge.BAD);
    }

    /** "which trouble (what = 0), its WORK or PLACE (1), or NONE; BRINGS (2). NO: BAD." */
    private static void judgeWhat() {
        Edge.range("judge what", 0, 2, Edge.NO, (x, v) -> x.judge(0, 0, v));
        Edge.refused("judge, all wrong", Edge.NO, x -> x.judge(3, 4, 3));
        TurnedRivers bare = new TurnedRivers();
        Check.due("new: no trouble", bare.judge(2, 3, 0), Edge.NONE);
        Check.due("new: no trouble's place", bare.judge(2, 3, 1), Edge.NONE);
        Check.due("new: brings", bare.judge(2, 3, 2), 0);
        Check.due("new: what 3", bare.judge(2, 3, 3), Edge.NO);
        Check.due("new: kind 3", bare.judge(3, 3, 0), Edge.NO);
    }

    private static void dueJudged(TurnedRivers x, String what, int trouble, int where) {
        Check.due(what + ": trouble", x.judge(0, 0, 0), trouble);
        Check.due(what + ": where", x.judge(0, 0, 1), where);
    }

    /** "1 a WORK has more than its BREADTH (the least such WORK)". */
    private static void judgedByBreadth() {
        StringBuilder text = new StringBuilder("places 2;river 0 0 30 30 30 30 30 30 30 30 30 30 30 30;");
        for (int w = 0; w < 8; w++) {
            text.append("work 0 1 3 0 0 1;");
        }
        TurnedRivers x = Check.landOf(text.toString(), 10);
        for (int w = 0; w < 8; w++) {
            x.send(w, 3);
        }
        dueJudged(x, "all as broad as they are", Edge.NONE, Edge.NONE);
        for (int w = 7; w >= 0; w--) {
            x.send(w, 4);
            dueJudged(x, "too much by " + w + " and those behind it", 1, w);
        }
        x.send(0, 3);
        dueJudged(x, "the least is well again", 1, 1);
        TurnedRivers broad = Check.landOf("places 2;river 0 0 30 30 30 30 30 30 30 30 30 30 30 30;work 0 1 30 0 0 1;"
                + "work 0 1 29 0 0 1;", 4);
        broad.send(0, 30);
        dueJudged(broad, "30 of 30", Edge.NONE, Edge.NONE);
        broad.send(0, 0);
        broad.send(1, 30);
        dueJudged(broad, "30 of 29", 1, 1);
    }

    /** "2 from a PLACE more go than its RIVER may send and WORKS bring there (the least such PLACE); NONE". */
    private static void judgedByPlaces() {
        TurnedRivers x = Check.landOf("places 3;river 0 2 7 7 7 7 1 1 1 1 2 2 2 2;work 0 1 30 0 0 1;work 1 2 30 0 0 1;"
                + "work 2 0 30 0 0 1;", 5);
        x.send(0, 5);
        dueJudged(x, "all that the river may send", Edge.NONE, Edge.NONE);
        x.send(0, 6);
        dueJudged(x, "one more", 2, 0);
        Check.due("less than KEEP", x.judge(1, 0, 0), 2);
        Check.due("as much as KEEP", x.judge(2, 0, 1), 0);
        x.send(0, 0);
        Check.due("nothing sent", x.judge(1, 0, 0), Edge.NONE);
        x.send(0, 5);
        x.send(1, 5);
        dueJudged(x, "all that works bring", Edge.NONE, Edge.NONE);
        x.send(1, 6);
        dueJudged(x, "one more than works bring", 2, 1);
        x.send(2, 7);
        dueJudged(x, "and one more", 2, 1);
        x.send(1, 5);
        dueJudged(x, "the last place", 2, 2);
        x.send(2, 5);
        x.send(0, 10);
        dueJudged(x, "river and works together", Edge.NONE, Edge.NONE);
        x.send(0, 11);
        dueJudged(x, "one more than both", 2, 0);
        x.send(0, 30);
        x.send(1, 30);
        x.send(2, 30);
        dueJudged(x, "round in a circle", Edge.NONE, Edge.NONE);
        x.keep(0, 30);
        dueJudged(x, "round in a circle, without a river's water", Edge.NONE, Edge.NONE);
        x.send(2, 29);
        dueJudged(x, "one is missing", 2, 0);
    }

    /** "the least such PLACE": the last of eight, and each ahead of it. */
    private static void judgedAtEachPlace() {
        StringBuilder text = new StringBuilder("places 8;");
        for (int p = 0; p < 8; p++) {
            text.append("work ").append(p).append(' ').append(p ^ 1).append(" 9 0 0 1;");
        }
        TurnedRivers x = Check.landOf(text.toString(), 9);
        dueJudged(x, "nothing sent", Edge.NONE, Edge.NONE);
        for (int p = 7; p >= 0; p--) {
            // What its neighbour sent comes here, so one more must go.
            x.send(p, p % 2 == 0 ? 2 : 1);
            dueJudged(x, "from " + p, 2, p);
        }
    }

    /** "the first of": a WORK ahead of a PLACE. */
    private static void judgedFirst() {
        TurnedRivers x = Check.landOf("places 3;work 0 1 9 0 0 1;work 1 2 2 0 0 1;", 3);
        x.send(0, 9);
        dueJudged(x, "a place alone", 2, 0);
        x.send(1, 3);
        dueJudged(x, "a work ahead of a place", 1, 1);
        x.send(1, 2);
        dueJudged(x, "the place again", 2, 0);
    }

    /** "BRINGS: WORTHS of what stays in each TOWN .., less all TOLLS". */
    private static void brings() {
        TurnedRivers x = Check.landOf("places 3;river 0 1 5 5 5 5 0 0 0 0 1 1 1 1;town 0 2 10 1 4;town 2 1 9 1 3;"
                + "work 0 2 1 20 0 1;work 0 1 9 3 0 1;", 6);
        Check.due("its river's, less KEEP", x.judge(0, 0, 2), 2 * 10 + 4);
        Check.due("no water", x.judge(1, 0, 2), 0);
        Check.due("as much as KEEP", x.judge(2, 0, 2), 0);
        x.send(0, 1);
        Check.due("one goes", x.judge(0, 0, 2), 2 * 10 + 4 + 9 - 20);
        x.send(0, 2);
        Check.due("two go, more than the BREADTH", x.judge(0, 0, 2), 2 * 10 + 9 + 3 - 40);
        Check.due("which is judged, too", x.judge(0, 0, 0), 1);
        x.send(0, 3);
        Check.due("three go, one more than is wanted", x.judge(0, 0, 2), 10 + 9 + 3 - 60);
        x.send(0, 0);
        x.send(1, 4);
        Check.due("all to where no town is", x.judge(0, 0, 2), -12);
        x.send(1, 30);
        x.send(0, 30);
        Check.due("far below 0", x.judge(0, 0, 2), 9 + 3 - 600 - 90);
    }

    /** "(whether it is well judged, or not; a TOWN from which more go has 0)". */
    private static void bringsWhereMoreGo() {
        TurnedRivers x = Check.landOf("places 2;river 0 0 3 3 3 3 3 3 3 3 3 3 3 3;town 0 9 7 0 0;town 1 9 5 0 0;"
                + "work 0 1 9 0 0 1;", 5);
        int[] want = {21, 14 + 5, 7 + 10, 15, 20, 25};
        for (int v = 0; v < want.length; v++) {
            x.send(0, v);
            Check.due("brings with " + v, x.judge(0, 0, 2), want[v]);
            Check.due("judged with " + v, x.judge(0, 0, 0), v > 3 ? 2 : Edge.NONE);
        }
        StringBuilder all = new StringBuilder("places 2;town 0 9 99 9 99;");
        for (int w = 0; w < 8; w++) {
            all.append("work 0 1 30 20 0 1;");
        }
        TurnedRivers least = Check.landOf(all.toString(), 10);
        for (int w = 0; w < 8; w++) {
            least.send(w, 30);
        }
        Check.due("the least there can be", least.judge(0, 0, 2), -8 * 30 * 20);
    }
}
