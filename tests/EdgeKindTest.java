/** Edges of promises 27 to 31: KINDS of WORKS, IMAGES, what is refused, THE TRACE. */
public final class EdgeKindTest {
    public static void main(String[] args) {
        valueRanges();
        valueWithoutWorks();
        valuesOfTheLeastWork();
        valuesOfTheGreatestWork();
        savingCountsTowns();
        traceOfEachKind();
        traceOfRefusedCalls();
        traceOfOtherCalls();
        imageRange();
        backRange();
        backWithoutImage();
        imagesKeepNothingElse();
        imagesAreCopies();
        imagesAreGone();
        imagesStayBehindAFault();
        manyCalls();
        Check.end("EdgeKindTest");
    }

    /** "VALUE. NO: BAD." */
    private static void valueRanges() {
        Edge.range("value kind", 0, 5, Edge.NO, (x, v) -> x.value(v, 0));
        Edge.range("value kind of the last", 0, 5, Edge.NO, (x, v) -> x.value(v, 2));
        for (int kind = 0; kind < 6; kind++) {
            int asked = kind;
            Edge.range("value work", 0, 2, Edge.NO, (x, v) -> x.value(asked, v));
        }
        Edge.refused("value, both wrong", Edge.NO, x -> x.value(6, 3));
        Edge.refused("value, both wrong", Edge.NO, x -> x.value(Edge.MIN, Edge.MAX));
    }

    private static void valueWithoutWorks() {
        for (int kind = 0; kind < 6; kind++) {
            int asked = kind;
            Edge.unchanged("new: value", TurnedRivers::new, x -> x.value(asked, 0), Edge.NO);
        }
    }

    private static void values(String what, TurnedRivers x, int work, int... want) {
        for (int kind = 0; kind < 6; kind++) {
            Check.due(what + ", kind " + kind, x.value(kind, work), want[kind]);
        }
    }

    private static void valuesOfTheLeastWork() {
        TurnedRivers x = Check.landOf("places 2;work 0 1 1 0 0 1;", 2);
        values("all least", x, 0, 1, 1, 1, 1, 2, 1);
        TurnedRivers tolled = Check.landOf("places 2;work 0 1 1 20 0 1;", 2);
        values("below 0", tolled, 0, 1, 1, -19, 1, -38, 1);
        TurnedRivers even = Check.landOf("places 2;work 0 1 20 20 0 1;", 2);
        values("just 0", even, 0, 20, 20, 0, 20, 0, 20);
    }

    private static void valuesOfTheGreatestWork() {
        StringBuilder text = new StringBuilder("places 8;");
        for (int w = 0; w < 7; w++) {
            text.append("work 0 1 1 0 0 1;");
        }
        for (int t = 0; t < 4; t++) {
            text.append("town ").append(t).append(" 1 1 1 1;");
        }
        TurnedRivers x = Check.landOf(text + "work 6 7 30 20 99 5;", 13);
        values("the eighth, all greatest", x, 7, 30, 150, 10, 249, 20, 34);
        Check.due("a ninth", x.value(0, 8), Edge.NO);
    }

    /** "SAVING up, and TOWNS". */
    private static void savingCountsTowns() {
        StringBuilder text = new StringBuilder("places 8;work 0 1 7 0 0 1;");
        for (int towns = 0; towns <= 4; towns++) {
            Check.due("saving of " + towns, Check.landOf(text.toString(), towns + 2).value(5, 0), 7 + towns);
            text.append("town ").append(towns).append(" 1 1 1 1;");
        }
    }

    /** "numbers in brackets come to THE TRACE as often as value() asks that body". */
    private static void traceOfEachKind() {
        long[] want = {1, 11, 101, 1011, 10101, 100001};
        for (int kind = 0; kind < 6; kind++) {
            TurnedRivers x = Check.landOf(Edge.LAND, Edge.LAND_ITEMS);
            Check.due("nothing yet", x.trace(), 0);
            x.value(kind, 0);
            Check.due("trace of kind " + kind, x.trace(), want[kind]);
            Check.due("asked again", x.trace(), want[kind]);
            x.value(kind, 2);
            Check.due("trace of kind " + kind + " twice", x.trace(), 2 * want[kind]);
        }
    }

    private static void traceOfRefusedCalls() {
        TurnedRivers x = Check.landOf(Edge.LAND, Edge.LAND_ITEMS);
        int[] kinds = {-1, 6, Edge.MIN, Edge.MAX};
        for (int kind : kinds) {
            x.value(kind, 0);
        }
        for (int kind = 0; kind < 6; kind++) {
            x.value(kind, 3);
            x.value(kind, -1);
        }
        Check.due("refused calls leave no trace", x.trace(), 0);
    }

    /** No other call asks such a body; and no call takes THE TRACE back. */
    private static void traceOfOtherCalls() {
        TurnedRivers x = Edge.rich();
        Check.due("trace of rich()", x.trace(), 1011);
        Edge.allOf(x);
        Check.due("of all other calls none", x.trace(), 1011);
        Check.tell(x, Edge.LAND);
        x.land();
        Check.due("a land read anew leaves it", x.trace(), 1011);
        x.value(4, 0);
        Check.due("it goes on", x.trace(), 1011 + 10101);
    }

    /** "IMAGES 0, 1": "An IMAGE is kept: LEVEL. BAD." */
    private static void imageRange() {
        Edge.range("image", 0, 1, Edge.BAD, (x, v) -> x.image(v));
        int[] wrong = {-1, 2, 3, 256, Edge.MIN, Edge.MAX};
        for (int image : wrong) {
            Edge.unchanged("image " + image + ", both kept", Edge::withTwoImages, x -> x.image(image), Edge.BAD);
        }
        int[] levels = {0, 1, 998, 999};
        for (int level : levels) {
            TurnedRivers x = new TurnedRivers();
            x.lake(0, level);
            Check.due("image 0 of LEVEL " + level, x.image(0), level);
            Check.due("image 1 of LEVEL " + level, x.image(1), level);
            x.lake(0, 500);
            Check.due("back 0 to LEVEL " + level, x.back(0), level);
            x.lake(0, 500);
            Check.due("back 1 to LEVEL " + level, x.back(1), level);
        }
    }

    /** "BAD; STATE: none was kept." */
    private static void backRange() {
        Edge.range("back", 0, 1, Edge.BAD, (x, v) -> x.back(v));
        int[] wrong = {-1, 2, 3, 256, 257, 65536, Edge.MIN, Edge.MIN + 1, Edge.MAX};
        for (int image : wrong) {
            Edge.unchanged("back " + image + ", both kept", Edge::withTwoImages, x -> x.back(image), Edge.BAD);
            Edge.unchanged("back " + image + ", none kept", TurnedRivers::new, x -> x.back(image), Edge.BAD);
        }
    }

    private static void backWithoutImage() {
        Edge.unchanged("new: back 0", TurnedRivers::new, x -> x.back(0), Edge.STATE);
        Edge.unchanged("new: back 1", TurnedRivers::new, x -> x.back(1), Edge.STATE);
        Edge.refused("back 1 where image 0 alone is kept", Edge.STATE, x -> x.back(1));
        TurnedRivers x = new TurnedRivers();
        x.image(2);
        Check.due("a refused image is none", x.back(0), Edge.STATE);
        Check.due("a refused image is none", x.back(1), Edge.STATE);
        x.image(1);
        Check.due("image 1 is not image 0", x.back(0), Edge.STATE);
        Check.due("image 1 of a new object", x.back(1), 0);
    }

    /** "IMAGES 0, 1 keep THE SENDING, THE LAKE, SHARES; nothing else." */
    private static void imagesKeepNothingElse() {
        TurnedRivers x = Edge.rich();
        x.keep(0, 30);
        x.keep(2, 29);
        x.value(5, 0);
        x.type(' ', 1);
        int places = x.count(0);
        Check.due("back", x.back(0), 50);
        Check.due("sending 0", x.send(0, 0), 2);
        Check.due("sending 1", x.send(1, 0), 1);
        Check.due("sending 2", x.send(2, 0), 0);
        Check.due("share 0", x.share(0, 0), 70);
        Check.due("share 1", x.share(1, 0), 80);
        Check.due("LEVEL", x.lake(0, 0), 50);
        Check.due("SALT", x.lake(1, 0), 7);
        Check.due("SUN", x.lake(2, 0), 3);
        Check.due("KEEP is as it is", x.keep(0, 0), 30);
        Check.due("KEEP is as it is", x.keep(2, 0), 29);
        Check.due("THE TRACE is as it is", x.trace(), 1011 + 100001);
        Check.due("THE TEXT is as it is", x.count(4), Edge.BEGUN.length() + 1);
        Check.due("THE LAND is as it is", x.count(0), places);
    }

    /** What is told behind an IMAGE doesn't change it; nor does one IMAGE the other. */
    private static void imagesAreCopies() {
        TurnedRivers x = Edge.withTwoImages();
        Check.due("back 1", x.back(1), 40);
        Check.due("sending", x.send(1, 9), 1);
        Check.due("back 0", x.back(0), 50);
        Check.due("share", x.share(1, 1), 80);
        Check.due("back 1 again", x.back(1), 40);
        Check.due("sending again", x.send(1, 0), 1);
        Check.due("kept anew", x.image(1), 40);
        Check.due("back 1, anew", x.back(1), 40);
        Check.due("sending, anew", x.send(1, 0), 0);
        Check.due("back 0 is as it was", x.back(0), 50);
        Check.due("sending of image 0", x.send(1, 0), 1);
    }

    /** "(A LAND read anew: .. IMAGES are gone.)" */
    private static void imagesAreGone() {
        String[] texts = {"", "   ", "places 1;", Edge.LAND};
        for (String text : texts) {
            TurnedRivers x = Edge.withTwoImages();
            x.clear();
            Check.tell(x, text);
            Check.that("read", x.land() >= 0);
            Check.due("image 0 is gone", x.back(0), Edge.STATE);
            Check.due("image 1 is gone", x.back(1), Edge.STATE);
            Check.due("and what is out of range is BAD still", x.back(2), Edge.BAD);
            Check.due("kept anew", x.image(0), 41);
            Check.due("back", x.back(0), 41);
            Check.due("the other is still gone", x.back(1), Edge.STATE);
        }
    }

    private static void imagesStayBehindAFault() {
        TurnedRivers x = Edge.withTwoImages();
        Check.due("a fault", x.land(), -10 - Edge.BEGUN.length());
        Check.due("image 0 is there", x.back(0), 50);
        Check.due("image 1 is there", x.back(1), 40);
    }

    /** "An object is used for at most 512 calls": the last of them is as good as the first. */
    private static void manyCalls() {
        TurnedRivers x = new TurnedRivers();
        for (int i = 1; i <= 510; i++) {
            Check.due("call " + i, x.lake(0, i), i - 1);
        }
        Check.due("call 511", x.image(1), 510);
        Check.due("call 512", x.back(1), 510);
    }
}
