/** Edges of promises 15 to 19: a YEAR, BEST, ORDER, MEAN, THE DAM. */
public final class EdgeYearTest {
    /** One unit for each WORK, each WORK a coin dearer than the one ahead of it. */
    private static final String EIGHT = eightWorks();
    private static final int[] SETS = {0, 1, 7, 8, 255, 256, -1, -2, Edge.MIN, Edge.MAX};

    public static void main(String[] args) {
        yearKind();
        yearDug();
        bestCoins();
        bestAtMostTheseCoins();
        bestOfSeveral();
        bestOfAllWorks();
        orderYears();
        orderAheadOfIt();
        orderOfFive();
        orderOfSix();
        orderOfNone();
        orderOfSeveral();
        orderThatIsNotDone();
        meanYears();
        meanIsExact();
        damRows();
        damIsNotThere();
        damEmptyAtFirst();
        damHoldsAtMost();
        damAtTheEnd();
        damKeepsTheLeast();
        damWithoutRiver();
        damRowsFirstIsHighest();
        damAtEachPlace();
        damWhereNothingIsWorthAnything();
        keepCountsAtOnce();
        landReadAnewCountsAtOnce();
        Check.end("EdgeYearTest");
    }

    private static String eightWorks() {
        StringBuilder s = new StringBuilder("places 2;river 0 0 30 30 30 30 30 30 30 30 30 30 30 30;town 1 9 9 9 9;");
        for (int w = 0; w < 8; w++) {
            s.append("work 0 1 1 0 ").append(92 + w).append(" 1;");
        }
        return s.toString();
    }

    /** "MOST of a YEAR. BAD." */
    private static void yearKind() {
        Edge.range("year kind", 0, 2, Edge.BAD, (x, v) -> x.year(v, 7));
        for (int kind = 0; kind < 3; kind++) {
            TurnedRivers x = Edge.rich();
            int sum = x.most(kind, 0, 7) + x.most(kind, 1, 7) + x.most(kind, 2, 7) + x.most(kind, 3, 7);
            int asked = kind;
            Edge.unchanged("year " + kind, Edge::rich, y -> y.year(asked, 7), sum);
        }
        Check.due("new: year 2", new TurnedRivers().year(2, -1), 0);
        Check.due("new: year 3", new TurnedRivers().year(3, -1), Edge.BAD);
    }

    private static void yearDug() {
        TurnedRivers x = Check.landOf(EIGHT, 11);
        for (int set : SETS) {
            Check.due("year of " + set, x.year(1, set), 36 * Integer.bitCount(set & 255));
        }
        TurnedRivers rich = Edge.rich();
        for (int set : SETS) {
            Check.due("year of " + set, rich.year(0, set), rich.year(0, set & 7));
        }
    }

    /** "BEST of coins (0 .. 999)". */
    private static void bestCoins() {
        for (int what = 0; what < 2; what++) {
            int asked = what;
            Edge.range("best coins", 0, 999, Edge.BAD, (x, v) -> x.best(v, asked));
        }
        Edge.range("best what", 0, 1, Edge.BAD, (x, v) -> x.best(50, v));
        Edge.refused("best, both wrong", Edge.BAD, x -> x.best(1000, 2));
        TurnedRivers bare = new TurnedRivers();
        Check.due("new: best 0", bare.best(0, 0), 0);
        Check.due("new: best 999", bare.best(999, 1), 0);
        Check.due("new: best 1000", bare.best(1000, 1), Edge.BAD);
        Check.due("new: best -1", bare.best(-1, 0), Edge.BAD);
    }

    /** "with COSTS of these coins at most". */
    private static void bestAtMostTheseCoins() {
        TurnedRivers x = Check.landOf("places 2;river 0 0 9 9 9 9 9 9 9 9 9 9 9 9;town 1 9 1 0 0;work 0 1 1 0 0 1;"
                + "work 0 1 2 0 5 1;work 0 1 4 0 99 1;", 6);
        int[] coins = {0, 4, 5, 98, 99, 103, 104, 999};
        int[] sets = {1, 1, 3, 3, 5, 5, 7, 7};
        int[] units = {1, 1, 3, 3, 5, 5, 7, 7};
        for (int i = 0; i < coins.length; i++) {
            Check.due("the set for " + coins[i], x.best(coins[i], 0), sets[i]);
            Check.due("what it brings for " + coins[i], x.best(coins[i], 1), 12 * units[i]);
        }
    }

    /** "of several the least (bits)". */
    private static void bestOfSeveral() {
        TurnedRivers x = Check.landOf("places 2;river 0 0 2 2 2 2 2 2 2 2 2 2 2 2;town 1 9 1 0 0;work 1 0 1 0 0 1;"
                + "work 0 1 1 0 5 1;work 0 1 1 0 5 1;work 0 1 2 0 10 1;work 0 1 2 0 9 1;", 8);
        Check.due("one that brings nothing is left out", x.best(0, 0), 0);
        Check.due("of two single ones", x.best(5, 0), 2);
        Check.due("of one broad one", x.best(9, 0), 16);
        Check.due("two narrow ones have the lower bits", x.best(10, 0), 6);
        Check.due("of all", x.best(999, 0), 6);
        TurnedRivers dry = Check.landOf("places 2;town 1 9 9 9 9;work 0 1 1 0 0 1;work 0 1 1 0 0 1;", 4);
        Check.due("none brings anything", dry.best(999, 0), 0);
        Check.due("none brings anything", dry.best(999, 1), 0);
    }

    private static void bestOfAllWorks() {
        TurnedRivers x = Check.landOf(EIGHT, 11);
        int all = 92 + 93 + 94 + 95 + 96 + 97 + 98 + 99;
        Check.due("all eight", x.best(all, 0), 255);
        Check.due("all eight", x.best(999, 1), 8 * 108);
        Check.due("one coin too few", x.best(all - 1, 0), 127);
        Check.due("one work", x.best(92, 0), 1);
        Check.due("no work", x.best(91, 0), 0);
        Check.due("the dearest is not better", x.best(99, 0), 1);
    }

    /** "in n YEARS (1 .. 20)". */
    private static void orderYears() {
        for (int what = 0; what < 2; what++) {
            int asked = what;
            Edge.range("order n", 1, 20, Edge.BAD, (x, v) -> x.order(7, v, asked));
        }
        Edge.range("order what", 0, 1, Edge.BAD, (x, v) -> x.order(7, 5, v));
        Edge.refused("order, both wrong", Edge.BAD, x -> x.order(7, 0, 2));
        TurnedRivers x = Check.landOf(EIGHT, 11);
        for (int n = 1; n <= 20; n++) {
            Check.due("one work in " + n, x.order(1, n, 0), 36 * (n - 1));
            Check.due("two works in " + n, x.order(3, n, 0), n == 1 ? 0 : 36 + 72 * (n - 2));
        }
    }

    /** "in each YEAR the MOST by those that were done ahead of it", "all of KIND mean". */
    private static void orderAheadOfIt() {
        for (int dig = 1; dig <= 5; dig++) {
            TurnedRivers x = Check.landOf("places 2;river 0 0 9 9 9 9 1 1 1 1 9 9 9 9;town 1 9 1 0 0;work 0 1 9 0 0 "
                    + dig + ";", 4);
            Check.due("DIG " + dig + " in as many years", x.order(1, dig, 0), 0);
            Check.due("DIG " + dig + " in one more", x.order(1, dig + 1, 0), 4);
            Check.due("DIG " + dig + " in 20", x.order(1, 20, 0), 4 * (20 - dig));
        }
        TurnedRivers town = Check.landOf("places 2;river 0 0 0 0 0 0 1 2 3 4 9 9 9 9;town 0 9 1 0 0;work 0 1 9 0 0 5;", 4);
        Check.due("what comes without a work", town.order(1, 1, 0), 10);
        Check.due("what comes without a work", town.order(0, 20, 0), 200);
    }

    /** "(5 WORKS at most". */
    private static void orderOfFive() {
        TurnedRivers x = Check.landOf(EIGHT, 11);
        Check.due("the first five", x.order(31, 20, 1), 01234);
        Check.due("the last five", x.order(248, 20, 1), 034567);
        Check.due("the last five", x.order(248, 20, 0), 36 * (1 + 2 + 3 + 4 + 5 * 15));
        Check.due("five, and bits of works that there are not", x.order(248 | 0x7fffff00, 20, 1), 034567);
        Check.due("five, and all higher bits", x.order(-256 | 31, 20, 1), 01234);
        StringBuilder long5 = new StringBuilder("places 2;river 0 0 9 9 9 9 9 9 9 9 9 9 9 9;town 1 9 1 0 0;");
        for (int w = 0; w < 5; w++) {
            long5.append("work 0 1 1 0 0 5;");
        }
        TurnedRivers slow = Check.landOf(long5.toString(), 8);
        Check.due("five of five years each", slow.order(31, 20, 0), 4 * 5 * (1 + 2 + 3));
        Check.due("five of five years each", slow.order(31, 20, 1), 01234);
        Check.due("five, all bits", slow.order(-1, 20, 1), 01234);
        Check.due("five, all bits", slow.order(Edge.MAX, 20, 1), 01234);
    }

    /** "else STATE)"; BAD comes first. */
    private static void orderOfSix() {
        Edge.Maker eight = () -> Check.landOf(EIGHT, 11);
        int[] sets = {63, 126, 252, 127, 254, 255, -1, Edge.MAX, 256 + 63, Edge.MIN + 63};
        for (int set : sets) {
            for (int what = 0; what < 2; what++) {
                int asked = what;
                Edge.unchanged("order of " + set, eight, x -> x.order(set, 1, asked), Edge.STATE);
                Edge.unchanged("order of " + set, eight, x -> x.order(set, 20, asked), Edge.STATE);
                Edge.unchanged("order of " + set + ", n 0", eight, x -> x.order(set, 0, asked), Edge.BAD);
                Edge.unchanged("order of " + set + ", n 21", eight, x -> x.order(set, 21, asked), Edge.BAD);
            }
            Edge.unchanged("order of " + set + ", what 2", eight, x -> x.order(set, 1, 2), Edge.BAD);
            Edge.unchanged("order of " + set + ", what -1", eight, x -> x.order(set, 1, -1), Edge.BAD);
        }
        Edge.unchanged("six that there are not", Edge::rich, x -> x.order(-1 << 3, 20, 1), 0);
        Check.that("all bits of three works", Edge.rich().order(-1, 20, 1) > 0);
    }

    /** "the order (1; 0 without WORKS)". */
    private static void orderOfNone() {
        TurnedRivers bare = new TurnedRivers();
        int[] sets = {0, 1, 63, 255, -1, Edge.MIN, Edge.MAX};
        for (int set : sets) {
            Check.due("new: order", bare.order(set, 20, 1), 0);
            Check.due("new: sum", bare.order(set, 20, 0), 0);
        }
        TurnedRivers x = Check.landOf(EIGHT, 11);
        Check.due("no works: order", x.order(0, 20, 1), 0);
        Check.due("no works: sum", x.order(0, 20, 0), 0);
        Check.due("work 0 alone is told as 0, too", x.order(1, 20, 1), 0);
        Check.due("work 7 alone", x.order(128, 20, 1), 7);
        Check.due("bit 8 is none", x.order(256, 20, 1), 0);
    }

    /** "the order (told as one number to the base of 8, the first the highest), of several the least". */
    private static void orderOfSeveral() {
        TurnedRivers x = Check.landOf("places 2;river 0 0 9 9 9 9 9 9 9 9 9 9 9 9;town 1 9 1 0 0;work 0 1 1 0 0 1;"
                + "work 0 1 2 0 0 1;work 0 1 3 0 0 1;work 0 1 3 0 0 1;work 1 0 9 0 0 1;", 8);
        Check.due("the best first", x.order(7, 20, 1), 0210);
        Check.due("of two as good the lesser first", x.order(12, 20, 1), 023);
        Check.due("what brings nothing last", x.order(17, 20, 1), 004);
        Check.due("what brings nothing last, behind all", x.order(24, 20, 1), 034);
        Check.due("one year: all are as good", x.order(31, 1, 1), 01234);
        Check.due("two years: the first counts alone", x.order(31, 2, 1), 020134);
        Check.due("three years: the second, too", x.order(31, 3, 1), 023014);
    }

    private static void orderThatIsNotDone() {
        TurnedRivers x = Check.landOf("places 2;river 0 0 9 9 9 9 9 9 9 9 9 9 9 9;town 1 9 1 0 0;work 0 1 1 0 0 1;"
                + "work 0 1 9 0 0 5;", 5);
        Check.due("five years: the short one first", x.order(3, 5, 1), 001);
        Check.due("five years", x.order(3, 5, 0), 4 * 4);
        Check.due("six years: the broad one first brings more", x.order(3, 6, 1), 010);
        Check.due("six years", x.order(3, 6, 0), 36);
    }

    /** "over n YEARS (1 .. 6), the first of a KIND": "-1: BAD." */
    private static void meanYears() {
        Edge.range("mean n", 1, 6, Edge.BAD, (x, v) -> x.mean(0, v, 7));
        Edge.range("mean kind", 0, 2, Edge.BAD, (x, v) -> x.mean(v, 3, 7));
        Edge.refused("mean, both wrong", Edge.BAD, x -> x.mean(3, 7, 7));
        TurnedRivers bare = new TurnedRivers();
        Check.due("new: mean", bare.mean(2, 6, -1), 0);
        Check.due("new: mean of 7", bare.mean(2, 7, -1), Edge.BAD);
        TurnedRivers x = Edge.rich();
        for (int set : SETS) {
            Check.due("mean of " + set, x.mean(0, 2, set), x.mean(0, 2, set & 7));
        }
    }

    /** "times 10 to the n - 1": nothing is rounded, and more than an int. */
    private static void meanIsExact() {
        TurnedRivers x = Check.landOf("places 1;river 0 0 0 0 0 1 0 0 0 0 0 0 0 2;town 0 9 1 9 1;follow 0 1 9 0;follow 1 1 0 9;"
                + "follow 2 9 1 0;", 6);
        Check.due("one year", x.mean(0, 1, 0), 1);
        Check.due("one year", x.mean(1, 1, 0), 0);
        Check.due("two years", x.mean(0, 2, 0), 10 + 1);
        Check.due("two years", x.mean(1, 2, 0), 1 + 18);
        Check.due("three years", x.mean(0, 3, 0), 100 + 1 * (10 + 1) + 9 * (1 + 18));
        StringBuilder rich = new StringBuilder("places 4;");
        for (int p = 0; p < 4; p++) {
            rich.append("river ").append(p).append(" 0 30 30 30 30 30 30 30 30 30 30 30 30;");
            rich.append("town ").append(p).append(" 9 99 9 99;");
        }
        TurnedRivers most = Check.landOf(rich.toString(), 9);
        long year = 4L * 4 * 18 * 99;
        Check.due("the greatest year", most.year(0, 0), year);
        Check.due("the greatest three", most.best(0, 1), 3 * year);
        Check.due("the greatest 20", most.order(0, 20, 0), 20 * year);
        Check.due("the greatest mean", most.mean(0, 6, 0), 6 * year * 100000);
    }

    /** "BAD (n 1 .. 5 YEARS; row 0 .. 3 to the n less 1)". */
    private static void damRows() {
        Edge.range("dam n", 1, 5, Edge.BAD, (x, v) -> x.dam(0, v, 7, 0));
        Edge.range("dam what", 0, 1, Edge.BAD, (x, v) -> x.dam(0, 1, 7, v));
        int rows = 1;
        for (int n = 1; n <= 5; n++) {
            rows *= 3;
            int years = n;
            Edge.range("dam row of " + n, 0, rows - 1, Edge.BAD, (x, v) -> x.dam(v, years, 7, 0));
        }
        Edge.refused("dam, all wrong", Edge.BAD, x -> x.dam(-1, 0, 7, 2));
        Edge.refused("dam row 3 of no years", Edge.BAD, x -> x.dam(0, 0, 7, 0));
        TurnedRivers x = Edge.rich();
        for (int set : SETS) {
            Check.due("dam of " + set, x.dam(1, 1, set, 0), x.dam(1, 1, set & 7, 0));
        }
    }

    /** "STATE: no DAM."; BAD comes first. */
    private static void damIsNotThere() {
        Edge.Maker none = () -> Check.landOf("places 2;river 0 0 5 5 5 5 5 5 5 5 5 5 5 5;town 0 5 10 0 0;", 3);
        int[][] well = {{0, 1}, {2, 1}, {0, 5}, {242, 5}};
        int[][] wrong = {{3, 1}, {-1, 1}, {243, 5}, {0, 0}, {0, 6}, {Edge.MAX, 5}, {Edge.MIN, 1}, {0, Edge.MAX}, {0, Edge.MIN}};
        for (int what = 0; what < 2; what++) {
            int asked = what;
            for (int[] w : well) {
                Edge.unchanged("no dam", none, x -> x.dam(w[0], w[1], -1, asked), Edge.STATE);
            }
            for (int[] w : wrong) {
                Edge.unchanged("no dam, BAD", none, x -> x.dam(w[0], w[1], -1, asked), Edge.BAD);
            }
        }
        Edge.unchanged("no dam, what 2", none, x -> x.dam(0, 1, 0, 2), Edge.BAD);
        Edge.unchanged("no dam, what -1", none, x -> x.dam(0, 1, 0, -1), Edge.BAD);
        Check.due("new: no dam", new TurnedRivers().dam(0, 1, 0, 0), Edge.STATE);
        TurnedRivers gone = Edge.rich();
        gone.clear();
        Check.tell(gone, "places 1;");
        gone.land();
        Check.due("a dam that is gone", gone.dam(0, 1, 0, 0), Edge.STATE);
    }

    /** "from the first SEASON on (empty at first)". */
    private static void damEmptyAtFirst() {
        TurnedRivers x = Check.landOf("places 1;river 0 0 0 5 0 0 0 0 0 0 5 5 5 5;town 0 2 10 0 0;dam 0 9;", 4);
        Check.due("nothing in the first season", x.dam(0, 1, 0, 0), 20 + 20 + 10);
        Check.due("nothing to keep in it", x.dam(0, 1, 0, 1), 0);
        Check.due("asked again, it is empty again", x.dam(0, 1, 0, 0), 50);
        Check.due("not filled by another row", x.dam(2, 1, 0, 0) + x.dam(1, 1, 0, 0), 80);
    }

    /** "some of what is there .. is kept, as much as it holds at most". */
    private static void damHoldsAtMost() {
        for (int units = 1; units <= 9; units++) {
            TurnedRivers x = Check.landOf("places 1;river 0 0 30 0 0 0 0 0 0 0 30 30 30 30;town 0 4 10 5 1;dam 0 " + units
                    + ";", 4);
            int later = Math.min(units, 12) * 10;
            Check.due("a dam of " + units, x.dam(0, 1, 0, 0), 45 + later);
            Check.due("a dam of " + units + " is full", x.dam(0, 1, 0, 1), units);
            Check.due("a wet row", x.dam(2, 1, 0, 1), 0);
        }
        TurnedRivers little = Check.landOf("places 1;river 0 2 5 0 0 0 0 0 0 0 0 0 0 0;town 0 1 10 0 0;dam 0 9;", 4);
        Check.due("no more than the river has beyond KEEP", little.dam(0, 1, 0, 0), 30);
        Check.due("two of three are kept", little.dam(0, 1, 0, 1), 2);
        little.keep(0, 5);
        Check.due("KEEP takes all", little.dam(0, 1, 0, 0), 0);
        little.keep(0, 4);
        Check.due("KEEP leaves one", little.dam(0, 1, 0, 0), 10);
        little.keep(0, 30);
        Check.due("KEEP takes more than all", little.dam(0, 1, 0, 0), 0);
        TurnedRivers most = Check.landOf("places 3;river 0 0 30 30 30 30 0 0 0 0 0 0 0 0;town 0 9 99 9 98;town 1 9 97 9 96;"
                + "town 2 9 95 9 94;work 0 1 18 0 0 1;work 0 2 18 0 0 1;dam 0 9;", 8);
        int wet = 9 * 99 + 9 * 98 + 9 * 97 + 3 * 96;
        Check.due("nine of the least worth for a year of nothing", most.dam(0 * 3 + 1, 2, 3, 0), 4 * wet - 9 * 96 + 9 * 99);
        Check.due("three each in the last three seasons will do", most.dam(0 * 3 + 1, 2, 3, 1), 0);
    }

    /** "(what it holds at the end is worth nothing)". */
    private static void damAtTheEnd() {
        TurnedRivers x = Check.landOf("places 1;river 0 0 0 0 0 9 9 0 0 0 0 0 0 0;town 0 2 10 9 0;dam 0 9;", 4);
        Check.due("water in the last season alone", x.dam(0, 1, 0, 0), 20);
        Check.due("a year more", x.dam(0 * 3 + 2, 2, 0, 0), 20 + 70);
        Check.due("a year more, and water in it", x.dam(0 * 3 + 1, 2, 0, 0), 20 + 80);
        Check.due("nothing kept for nothing", x.dam(2, 1, 0, 1), 0);
    }

    /** "what is kept in the first SEASON: the least by which it can be". */
    private static void damKeepsTheLeast() {
        TurnedRivers x = Check.landOf("places 1;river 0 0 9 0 0 0 9 9 9 9 3 9 9 9;town 0 3 10 0 0;dam 0 9;", 4);
        Check.due("six of nine for later", x.dam(0, 1, 0, 1), 6);
        Check.due("nothing where each season has enough", x.dam(1, 1, 0, 1), 0);
        Check.due("nothing where all is wanted at once", x.dam(2, 1, 0, 1), 0);
        TurnedRivers same = Check.landOf("places 1;river 0 0 2 1 1 1 0 0 0 0 0 0 0 0;town 0 9 5 0 0;dam 0 9;", 4);
        Check.due("now is as good as later", same.dam(0, 1, 0, 1), 0);
        Check.due("now is as good as later", same.dam(0, 1, 0, 0), 25);
        TurnedRivers worth = Check.landOf("places 1;river 0 0 3 0 0 0 0 0 0 0 0 0 0 0;town 0 1 9 9 1;dam 0 1;", 4);
        Check.due("one for the first want of a later season", worth.dam(0, 1, 0, 0), 9 + 1 + 9);
        Check.due("one", worth.dam(0, 1, 0, 1), 1);
    }

    private static void damWithoutRiver() {
        TurnedRivers x = Check.landOf("places 2;river 0 0 9 9 9 9 9 9 9 9 9 9 9 9;town 1 9 1 0 0;work 0 1 9 0 0 1;dam 1 9;", 5);
        Check.due("what works bring is not held", x.dam(0, 1, 1, 0), 36);
        Check.due("so nothing is kept", x.dam(0, 1, 1, 1), 0);
        Check.due("without works", x.dam(242, 5, 0, 0), 0);
    }

    /** "in a told row of KINDS (a YEAR each; 5 at most; to the base of 3, the first the highest)". */
    private static void damRowsFirstIsHighest() {
        TurnedRivers x = Check.landOf("places 1;river 0 0 9 9 9 9 0 0 0 0 1 1 1 1;town 0 2 10 0 0;dam 0 9;", 4);
        Check.due("wet, then mean", x.dam(0 * 3 + 1, 2, 0, 0), 80 + 80);
        Check.due("mean, then wet", x.dam(1 * 3 + 0, 2, 0, 0), 80);
        Check.due("wet, mean, mean, mean, mean", x.dam(27 + 9 + 3 + 1, 5, 0, 0), 80 + 90);
        Check.due("mean four times, then wet", x.dam(81 + 27 + 9 + 3, 5, 0, 0), 80);
        Check.due("all dry", x.dam(242, 5, 0, 0), 5 * 40);
        Check.due("all wet", x.dam(0, 5, 0, 0), 5 * 80);
    }

    /** "A DAM at a PLACE": the RIVER there alone is held. */
    private static void damAtEachPlace() {
        for (int place = 0; place < 8; place++) {
            int other = (place + 1) % 8;
            TurnedRivers x = Check.landOf("places 8;river " + place + " 0 4 0 0 0 0 0 0 0 0 0 0 0;river " + other
                    + " 0 4 0 0 0 0 0 0 0 0 0 0 0;town " + place + " 1 10 0 0;town " + other + " 1 7 0 0;dam " + place
                    + " 9;", 6);
            Check.due("the dam's own place " + place, x.dam(0, 1, 0, 0), 4 * 10 + 7);
            Check.due("kept there", x.dam(0, 1, 0, 1), 3);
        }
    }

    /** "the least by which it can be": 0, if no keeping brings anything; also behind a row in which some was kept. */
    private static void damWhereNothingIsWorthAnything() {
        TurnedRivers x = Check.landOf("places 2;river 0 0 9 0 0 0 9 9 9 9 0 0 0 0;town 1 2 10 0 0;work 0 1 9 0 0 1;dam 0 9;", 5);
        for (int i = 0; i < 2; i++) {
            Check.due("some is kept", x.dam(0, 1, 1, 1), 6);
            Check.due("no work is dug: nothing comes", x.dam(0, 1, 0, 0), 0);
            Check.due("no work is dug: nothing is kept", x.dam(0, 1, 0, 1), 0);
            Check.due("some is kept again", x.dam(0, 1, 1, 1), 6);
            Check.due("no water: nothing comes", x.dam(2, 1, 1, 0), 0);
            Check.due("no water: nothing is kept", x.dam(2, 1, 1, 1), 0);
            Check.due("some is kept again", x.dam(0, 1, 1, 1), 6);
            Check.due("enough in each season: nothing is kept", x.dam(1, 1, 1, 1), 0);
        }
    }

    /** A KEEP that was refused counts nowhere; one that is told counts in the next answer of each call. */
    private static void keepCountsAtOnce() {
        TurnedRivers x = Check.landOf("places 1;river 0 0 3 3 3 3 3 3 3 3 3 3 3 3;town 0 9 1 0 0;dam 0 1;", 4);
        int[] keeps = {0, 31, 1, -1, 3, 30, 2, 0};
        int kept = 0;
        for (int v : keeps) {
            boolean well = v >= 0 && v <= 30;
            Check.due("keep " + v, x.keep(0, v), well ? kept : Edge.BAD);
            kept = well ? v : kept;
            int year = 4 * Math.max(0, 3 - kept);
            Check.due("year", x.year(1, 0), year);
            Check.due("best", x.best(0, 1), 3 * year);
            Check.due("order", x.order(0, 20, 0), 20 * year);
            Check.due("mean", x.mean(2, 2, 0), 20 * year);
            Check.due("dam", x.dam(0, 1, 0, 0), year);
            Check.due("alone", x.alone(1, 1), year);
            Check.due("treaty", x.treaty(1, 0), year);
        }
    }

    /** "THE TEXT becomes THE LAND": in all that is asked of YEARS; a FAULT leaves all as it was. */
    private static void landReadAnewCountsAtOnce() {
        TurnedRivers x = Check.landOf("places 2;river 0 0 3 3 3 3 3 3 3 3 3 3 3 3;town 0 9 1 0 0;dam 0 1;follow 1 0 0 10;", 5);
        Check.due("year", x.year(1, 0), 12);
        Check.due("mean", x.mean(1, 2, 0), 240);
        Check.tell(x, "places 2;town 0 9 1 0 0;dam 0 1;!");
        Check.due("a fault", x.land(), -10 - 32);
        Check.due("year stays", x.year(1, 0), 12);
        x.clear();
        Check.tell(x, "places 2;river 1 0 0 0 0 0 1 1 1 1 5 5 5 5;town 1 9 1 0 0;");
        Check.due("read anew", x.land(), 3);
        Check.due("the old river is gone", x.gives(0, 1, 0), 0);
        Check.due("year", x.year(1, 0), 4);
        Check.due("best", x.best(999, 1), 24);
        Check.due("order", x.order(0, 2, 0), 8);
        Check.due("follow is as at first", x.mean(1, 2, 0), 40 + 40);
        Check.due("the dam is gone", x.dam(0, 1, 0, 0), Edge.STATE);
    }
}
