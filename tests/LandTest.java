/** Promises 1 to 8 and 30: a new object, the text, the land, what it tells. */
public final class LandTest {
    private static final String RIVER = "river 0 0 1 2 3 4 5 6 7 8 9 10 11 12;";

    public static void main(String[] args) {
        newObject();
        typing();
        faults();
        faultsOfTowns();
        faultsOfWorks();
        wellTold();
        tellings();
        anew();
        nothingLeftOver();
        withoutTokens();
        Check.end("LandTest");
    }

    private static void newObject() {
        TurnedRivers x = new TurnedRivers();
        int[] counts = {1, 0, 0, 0, 0};
        for (int what = 0; what < 5; what++) {
            Check.due("count " + what, x.count(what), counts[what]);
        }
        Check.due("count(-1)", x.count(-1), -1);
        Check.due("count(5)", x.count(5), -1);
        Check.due("gives(0, 2, 3)", x.gives(0, 2, 3), 0);
        Check.due("gives(1, 0, 0)", x.gives(1, 0, 0), -1);
        Check.due("keep(0, 1)", x.keep(0, 1), -1);
        Check.due("town(0, 0)", x.town(0, 0), -1);
        Check.due("work(0, 0)", x.work(0, 0), -1);
        Check.due("send(0, 0)", x.send(0, 0), -1);
        Check.due("share(0, 0)", x.share(0, 0), -1);
        Check.due("lake(0, 0)", x.lake(0, 0), 0);
        Check.due("lake(1, 0)", x.lake(1, 0), 0);
        Check.due("lake(2, 0)", x.lake(2, 0), 0);
        Check.due("back(0)", x.back(0), -2);
        Check.due("trace()", x.trace(), 0);
        Check.due("mean(0, 6, 255)", x.mean(0, 6, 255), 0);
        Check.due("judge(0, 0, 0)", x.judge(0, 0, 0), -9);
        Check.due("judge(0, 0, 1)", x.judge(0, 0, 1), -9);
        Check.due("judge(0, 0, 2)", x.judge(0, 0, 2), 0);
        Check.due("price(0, 0, 0, 0)", x.price(0, 0, 0, 0), 0);
        Check.due("alone(0, 0)", x.alone(0, 0), 0);
        Check.due("alone(0, 1)", x.alone(0, 1), -1);
        Check.due("value(0, 0)", x.value(0, 0), -1000000);
    }

    private static void typing() {
        TurnedRivers x = new TurnedRivers();
        Check.due("type(0, 0)", x.type(0, 0), -1);
        Check.due("type(0, 9)", x.type(0, 9), -1);
        Check.due("type(0, -1)", x.type(0, -1), -1);
        Check.due("clear()", x.clear(), 0);
        for (int i = 1; i <= 49; i++) {
            Check.due("type 8", x.type(0x2020202020202020L, 8), 8 * i);
        }
        Check.due("type 7", x.type(0x2020202020202020L, 7), 399);
        Check.due("type 2", x.type(0x2020, 2), -3);
        Check.due("type 9 of a full text", x.type(0x2020, 9), -1);
        Check.due("type 1", x.type(0x20, 1), 400);
        Check.due("type 1 more", x.type(0x20, 1), -3);
        Check.due("count(4)", x.count(4), 400);
        Check.due("clear()", x.clear(), 400);
        Check.due("clear()", x.clear(), 0);
        Check.due("count(4)", x.count(4), 0);
        // The lowest bytes count, the highest of them first.
        x.type(0x7878706c616365L, 5);
        x.type(0x7878787878732031L, 3);
        x.type(0x78783bL, 1);
        Check.due("land()", x.land(), 1);
    }

    private static void fault(String text, int place) {
        TurnedRivers x = Check.landOf("places 3;" + RIVER + "town 1 1 2 3 1;work 0 1 2 3 4 5;dam 2 4;", 5);
        x.send(0, 7);
        x.share(0, 8);
        x.image(1);
        Check.tell(x, text);
        Check.due("land() of '" + text + "'", x.land(), -10 - place);
        Check.due("text stays", x.count(4), text.length());
        int[] counts = {3, 1, 1, 4};
        for (int what = 0; what < 4; what++) {
            Check.due("count " + what + " stays", x.count(what), counts[what]);
        }
        Check.due("river stays", x.gives(0, 2, 3), 12);
        Check.due("sending stays", x.send(0, 0), 7);
        Check.due("share stays", x.share(0, 0), 8);
        Check.due("image stays", x.back(1), 0);
    }

    private static void faults() {
        fault("places", 6);
        fault("  places", 8);
        fault("places 2;dam 0 1", 16);
        fault("places 2;dam 0 1  ", 18);
        fault("    !", 4);
        fault("places 2", 8);
        fault("places 2 ", 9);
        fault("places 2;dam", 12);
        fault("  river 0", 2);
        fault("2;", 0);
        fault(";", 0);
        fault("places;", 6);
        fault("places 0;", 7);
        fault("places 9;", 7);
        fault("places 100;", 7);
        fault("places 4294967297;", 7);
        fault("places 00;", 7);
        fault("places 2 3;", 9);
        fault("places 2;places 2;", 9);
        fault("places 2;3;", 9);
        fault("places 2;;", 9);
        fault("place 2;", 0);
        fault("placess 2;", 0);
        fault("Places 2;", 0);
        fault("plaCes 2;", 0);
        fault("places\t2;", 6);
        fault("places -2;", 7);
        fault("places 2;dame 0 1;", 9);
        fault("blaces 2;", 0);
        fault("placesz 2;", 0);
        fault("places 2;zdam 0 1;", 9);
        fault("places 2; \u00e9", 10);
        fault("places 2; \u0000", 10);
        fault("places 2;!dam", 9);
        fault("places 2;river 2 0", 15);
        fault("places 2;river 1 31", 17);
        fault("places 2;river 1 30 1 1 1 1 1 1 1 1 1 1 1 31;", 42);
        fault("places 2;river 1 30 1 1 1 1 1 1 1 1 1 1 1;", 41);
        fault("places 2;river 1 30 1 1 1 1 1 1 1 1 1 1 1 1 1;", 44);
        fault("places 2;" + RIVER + RIVER, 9 + RIVER.length() + 6);
        fault("places 2;dam 2 1;", 13);
        fault("places 2;dam 1 0;", 15);
        fault("places 2;dam 1 10;", 15);
        fault("places 2;dam 1 1;dam 0 1;", 17);
        fault("places 2;follow 3 0 0 10;", 16);
        fault("places 2;follow 0 11 0 0;", 18);
        fault("places 2;follow 0 0 11 0;", 20);
        fault("places 2;follow 0 0 0 11;", 22);
        fault("places 2;follow 0 0 0 9;", 22);
        fault("places 2;follow 0 9 9 0;", 22);
        fault("places 2;follow 0 5 4 01;", 22);
        fault("places 2;follow 0 dam 4 1;", 18);
    }

    /** Neither what an earlier text told, nor a text with a FAULT, nor bytes that were cleared, count later. */
    private static void nothingLeftOver() {
        String rich = "places 8;river 3 2 9 9 9 9 9 9 9 9 9 9 9 9;town 3 1 2 3 1;work 3 1 2 3 4 5;dam 2 4;follow 0 5 0 5;";
        TurnedRivers x = Check.landOf(rich, 6);
        Check.tell(x, rich);
        Check.due("land() again", x.land(), 6);
        Check.tell(x, rich + "dam");
        Check.due("land() with a fault", x.land(), -10 - rich.length());
        x.clear();
        for (int i = 0; i < 3; i++) {
            Check.tell(x, "places 8;river 0 0 1 1 1 1 2 2 2 2 3 3 3 3;town 0 9 1 0 0;");
            Check.due("land()", x.land(), 3);
            int[] counts = {8, 1, 0, 0, 0};
            for (int what = 0; what < 5; what++) {
                Check.due("count " + what, x.count(what), counts[what]);
            }
            Check.due("gives(3, 0, 0)", x.gives(3, 0, 0), 0);
            Check.due("keep(3, 0)", x.keep(3, 0), -1);
            Check.due("mean(0, 2, 0)", x.mean(0, 2, 0), 40 + 80);
            Check.due("mean(2, 2, 0)", x.mean(2, 2, 0), 120 + 80);
        }
        Check.tell(x, "places 10000000000");
        x.clear();
        Check.tell(x, "places 1");
        Check.due("land() ends behind a number", x.land(), -18);
        x.clear();
        Check.tell(x, "places");
        Check.due("land() ends behind a word", x.land(), -16);
        x.clear();
        for (int i = 0; i < 50; i++) {
            x.type(0x3b3b3b3b3b3b3b3bL, 8);
        }
        Check.due("land() of 400 tokens", x.land(), -10);
        x.clear();
        for (int i = 0; i < 50; i++) {
            x.type(0x3b303b303b303b30L, 8);
        }
        Check.due("land() of 400 tokens, the last a number", x.land(), -10);
        x.clear();
        Check.tell(x, "places 1;");
        for (int i = 0; i < 391; i++) {
            x.type(';', 1);
        }
        Check.due("land() of 393 tokens", x.land(), -19);
    }

    private static void faultsOfTowns() {
        fault("places 2;town 2 1 1 1 1;", 14);
        fault("places 2;town 1 10 1 1 1;", 16);
        fault("places 2;town 1 9 100 1 1;", 18);
        fault("places 2;town 1 9 99 10 1;", 21);
        fault("places 2;town 1 9 98 9 99;", 23);
        fault("places 2;town 1 1 1 1 1;town 1 1 1 1 1;", 29);
        StringBuilder four = new StringBuilder("places 8;");
        for (int p = 0; p < 4; p++) {
            four.append("town ").append(p).append(" 1 1 1 1;");
        }
        fault(four + "town 4 1 1 1 1;", four.length());
        fault(four + "town 9;", four.length());
    }

    private static void faultsOfWorks() {
        fault("places 1;work 0 0 1 1 1 1;", 16);
        fault("places 2;work 2 0 1 1 1 1;", 14);
        fault("places 2;work 0 2 1 1 1 1;", 16);
        fault("places 2;work 1 1 1 1 1 1;", 16);
        fault("places 2;work 0 1 0 1 1 1;", 18);
        fault("places 2;work 0 1 31 1 1 1;", 18);
        fault("places 2;work 0 1 1 21 1 1;", 20);
        fault("places 2;work 0 1 1 1 100 1;", 22);
        fault("places 2;work 0 1 1 1 1 0;", 24);
        fault("places 2;work 0 1 1 1 1 6;", 24);
        fault("places 2;work 0 1 1 1 1;", 23);
        StringBuilder eight = new StringBuilder("places 8;");
        for (int w = 0; w < 8; w++) {
            eight.append("work 0 1 1 1 1 1;");
        }
        fault(eight + "work 0 1 1 1 1 1;", eight.length());
        fault(eight + "work;", eight.length());
    }

    private static void wellTold() {
        Check.landOf("places 1;", 1);
        Check.landOf("   places   8  ;  ", 1);
        Check.landOf("places8;dam7 9;", 2);
        Check.landOf("places 1;river 0 30 0 0 0 0 30 30 30 30 0 0 0 0;town 0 0 0 0 0;dam 0 1;follow 2 10 0 0;", 5);
        Check.landOf("places 2;dam 0 1;town 1 9 99 9 99;work 1 0 30 20 99 5;work 1 0 1 0 0 1;" + RIVER, 6);
        StringBuilder long400 = new StringBuilder("places 1;");
        int items = 1;
        while (long400.length() < 380) {
            long400.append("follow 1 2 3 5;");
            items++;
        }
        while (long400.length() < 400) {
            long400.append(' ');
        }
        TurnedRivers x = Check.landOf(long400.toString(), items);
        Check.due("text is empty", x.count(4), 0);
    }

    private static void tellings() {
        TurnedRivers x = Check.landOf("places 4;river 2 30 1 2 3 4 5 6 7 8 9 10 11 12;town 3 1 20 3 4;"
                + "town 0 5 6 7 6;work 3 1 2 4 5 3;work 0 2 30 20 99 5;dam 1 7;", 7);
        for (int kind = 0; kind < 3; kind++) {
            for (int season = 0; season < 4; season++) {
                Check.due("gives", x.gives(2, kind, season), kind * 4 + season + 1);
                Check.due("gives without a river", x.gives(1, kind, season), 0);
            }
        }
        Check.due("gives(-1, 0, 0)", x.gives(-1, 0, 0), -1);
        Check.due("gives(4, 0, 0)", x.gives(4, 0, 0), -1);
        Check.due("gives(2, 3, 0)", x.gives(2, 3, 0), -1);
        Check.due("gives(2, -1, 0)", x.gives(2, -1, 0), -1);
        Check.due("gives(2, 0, 4)", x.gives(2, 0, 4), -1);
        Check.due("gives(2, 0, -1)", x.gives(2, 0, -1), -1);
        Check.due("keep(2, 31)", x.keep(2, 31), -1);
        Check.due("keep(2, -1)", x.keep(2, -1), -1);
        Check.due("keep(1, 0)", x.keep(1, 0), -1);
        Check.due("keep(4, 0)", x.keep(4, 0), -1);
        Check.due("keep(-1, 0)", x.keep(-1, 0), -1);
        Check.due("keep(2, 0)", x.keep(2, 0), 30);
        Check.due("keep(2, 30)", x.keep(2, 30), 0);
        int[][] towns = {{3, 1, 20, 3, 4}, {0, 5, 6, 7, 6}};
        int[][] works = {{3, 1, 2, 4, 5, 3}, {0, 2, 30, 20, 99, 5}};
        for (int i = 0; i < 2; i++) {
            for (int what = 0; what < 6; what++) {
                Check.due("town(" + i + ", " + what + ")", x.town(i, what), what < 5 ? towns[i][what] : -1);
                Check.due("work(" + i + ", " + what + ")", x.work(i, what), works[i][what]);
            }
        }
        for (int i = -1; i < 3; i += 3) {
            Check.due("town(" + i + ", 0)", x.town(i, 0), -1);
            Check.due("work(" + i + ", 0)", x.work(i, 0), -1);
        }
        Check.due("town(0, -1)", x.town(0, -1), -1);
        Check.due("work(0, -1)", x.work(0, -1), -1);
        Check.due("work(0, 6)", x.work(0, 6), -1);
        int[] counts = {4, 2, 2, 7, 0};
        for (int what = 0; what < 5; what++) {
            Check.due("count " + what, x.count(what), counts[what]);
        }
    }

    private static void anew() {
        TurnedRivers x = Check.landOf("places 3;" + RIVER + "town 1 3 9 1 1;work 0 1 9 0 4 1;dam 0 3;follow 0 0 0 10;", 6);
        x.send(0, 4);
        x.share(0, 5);
        x.lake(0, 6);
        x.image(0);
        x.value(0, 0);
        Check.due("year(1, 1)", x.year(1, 1), 4 * 28);
        Check.tell(x, "places 2;town 1 1 1 1 1;work 0 1 1 1 1 1;");
        Check.due("land()", x.land(), 3);
        Check.due("year(1, 1) without a river", x.year(1, 1), 0);
        Check.due("gives", x.gives(0, 0, 0), 0);
        Check.due("gives(2, 0, 0)", x.gives(2, 0, 0), -1);
        Check.due("keep(0, 0)", x.keep(0, 0), -1);
        Check.due("dam is gone", x.count(3), 0);
        Check.due("sending is nothing", x.send(0, 0), 0);
        Check.due("shares are 0", x.share(0, 0), 0);
        Check.due("images are gone", x.back(0), -2);
        Check.due("the lake stays", x.lake(0, 0), 6);
        Check.due("the trace stays", x.trace(), 1);
        Check.tell(x, "places 2;" + RIVER + "town 0 9 1 0 0;");
        x.land();
        Check.due("follow is as at first", x.mean(0, 2, 0), 10 * x.year(0, 0) + 10 * x.year(1, 0));
    }

    /** A text without a TOKEN has no FAULT: 0 ITEMS, and the LAND is as at first. */
    private static void withoutTokens() {
        Check.due("land() of a new object", new TurnedRivers().land(), 0);
        for (int blanks = 0; blanks <= 400; blanks += 40) {
            TurnedRivers x = Check.landOf("places 3;" + RIVER + "town 0 3 9 1 1;work 0 1 9 0 4 1;dam 0 3;follow 0 0 0 10;", 6);
            x.send(0, 4);
            x.share(0, 5);
            x.lake(0, 6);
            x.image(0);
            x.image(1);
            x.value(0, 0);
            Check.that("year(1, 1) brings some", x.year(1, 1) > 0);
            Check.tell(x, " ".repeat(blanks));
            Check.due("land() of " + blanks + " blanks", x.land(), 0);
            nothingTold(x);
            Check.due("the lake stays", x.lake(0, 6), 6);
            Check.due("the trace stays", x.trace(), 1);
            Check.due("land() of nothing again", x.land(), 0);
            nothingTold(x);
            Check.tell(x, "places 2;town 1 1 1 1 1;work 0 1 1 1 1 1;");
            Check.due("land() behind it", x.land(), 3);
            Check.due("sending is nothing", x.send(0, 0), 0);
            Check.due("shares are 0", x.share(0, 0), 0);
        }
    }

    private static void nothingTold(TurnedRivers x) {
        int[] counts = {1, 0, 0, 0, 0};
        for (int what = 0; what < 5; what++) {
            Check.due("count " + what, x.count(what), counts[what]);
        }
        Check.due("gives(0, 1, 0)", x.gives(0, 1, 0), 0);
        Check.due("gives(1, 1, 0)", x.gives(1, 1, 0), -1);
        Check.due("keep(0, 0)", x.keep(0, 0), -1);
        Check.due("town(0, 0)", x.town(0, 0), -1);
        Check.due("work(0, 0)", x.work(0, 0), -1);
        Check.due("send(0, 0)", x.send(0, 0), -1);
        Check.due("share(0, 0)", x.share(0, 0), -1);
        Check.due("most(1, 0, 1)", x.most(1, 0, 1), 0);
        Check.due("year(1, 1)", x.year(1, 1), 0);
        Check.due("dam(0, 1, 1, 0)", x.dam(0, 1, 1, 0), -2);
        Check.due("treaty(1, 0)", x.treaty(1, 0), -1000000);
        Check.due("back(0)", x.back(0), -2);
        Check.due("back(1)", x.back(1), -2);
    }
}
