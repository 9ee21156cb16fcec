/** Edges of promises 1 to 4: a new object, THE TEXT, and each sentence that tells what a FAULT is. */
public final class EdgeTextTest {
    private static final String[] ITEMS = {
        "places 8 ;", "river 7 30 0 1 2 3 4 5 6 7 8 9 29 30 ;", "town 7 9 99 9 99 ;", "work 0 7 30 20 99 5 ;",
        "dam 7 9 ;", "follow 2 3 3 4 ;",
    };
    private static final String RIVER = " 0 1 2 3 4 5 6 7 8 9 10 11 12;";

    public static void main(String[] args) {
        newObject();
        typeTakesOneToEight();
        typeTakesTheLowestBytes();
        typeIsFull();
        typeIsBadAheadOfFull();
        clearing();
        emptyText();
        fullText();
        allEightPlacesAndAllElse();
        placesFirstAndOnce();
        oneEach();
        notTooMany();
        ranges();
        worthOfTheSecondWant();
        toAnotherPlace();
        tenTogether();
        followToldAgain();
        numbers();
        words();
        endsTooEarly();
        tokensThatCantStandThere();
        everyByte();
        firstOfSeveralFaults();
        readAnew();
        faultsLeaveTheLand();
        Check.end("EdgeTextTest");
    }

    /** "As told; THE LAKE has LEVEL 0, SALT 0, SUN 0." "At first one PLACE, nothing else". */
    private static void newObject() {
        TurnedRivers x = new TurnedRivers();
        int[] counts = {1, 0, 0, 0, 0};
        for (int what = 0; what < 5; what++) {
            Check.due("new: count " + what, x.count(what), counts[what]);
        }
        for (int i = 0; i < 12; i++) {
            Check.due("new: gives", x.gives(0, i / 4, i % 4), 0);
            Check.due("new: gives at a second place", x.gives(1, i / 4, i % 4), Edge.BAD);
        }
        for (int what = 0; what < 3; what++) {
            Check.due("new: lake " + what, x.lake(what, 0), 0);
        }
        Check.due("new: no river", x.keep(0, 0), Edge.BAD);
        Check.due("new: no town", x.town(0, 0), Edge.BAD);
        Check.due("new: no work", x.work(0, 0), Edge.BAD);
        Check.due("new: no dam", x.dam(0, 1, 0, 0), Edge.STATE);
        Check.due("new: no image 0", x.back(0), Edge.STATE);
        Check.due("new: no image 1", x.back(1), Edge.STATE);
        Check.due("new: trace", x.trace(), 0);
        Check.due("new: clear", x.clear(), 0);
        TurnedRivers other = Edge.rich();
        Check.due("new: nothing in common with another", new TurnedRivers().count(0), 1);
        Check.due("new: the other is as it was", other.count(0), 4);
    }

    /** "The lowest n (1 .. 8) bytes of v". */
    private static void typeTakesOneToEight() {
        Edge.range("type n", 1, 8, Edge.BAD, (x, n) -> x.type(0x2020202020202020L, n));
        for (int n = 1; n <= 8; n++) {
            Check.due("type n " + n, new TurnedRivers().type(0, n), n);
        }
        long[] values = {Long.MIN_VALUE, Long.MAX_VALUE, -1, 0, 1};
        for (long v : values) {
            Check.due("type v " + v, new TurnedRivers().type(v, 8), 8);
            int n = 9;
            Edge.refused("type v " + v + ", n 9", Edge.BAD, x -> x.type(v, n));
            Edge.refused("type v " + v + ", n 0", Edge.BAD, x -> x.type(v, 0));
        }
    }

    /** "the highest of them first, come to THE TEXT": the same text, told n bytes at a time. */
    private static void typeTakesTheLowestBytes() {
        String text = "places 7;dam 6 5;  follow 2 0 0 10;town 3 4 5 6 5;      ";
        for (int n = 1; n <= 8; n++) {
            TurnedRivers x = new TurnedRivers();
            for (int at = 0; at + n <= text.length(); at += n) {
                long v = 0x7b7b7b7b7b7b7b7bL;
                for (int i = 0; i < n; i++) {
                    v = v << 8 | text.charAt(at + i);
                }
                Check.due("type " + n, x.type(v, n), at + n);
            }
            Check.due("land() of " + n + " bytes a call", x.land(), 4);
            Check.due("places", x.count(0), 7);
            Check.due("dam", x.count(3), 5);
            Check.due("town", x.town(0, 3), 6);
        }
        TurnedRivers high = new TurnedRivers();
        high.type(0x80L, 1);
        Check.due("land() of byte 128", high.land(), -10);
        TurnedRivers blank = new TurnedRivers();
        blank.type(0x120L, 1);
        Check.due("land() of byte 32, more above it", blank.land(), 0);
    }

    /** "(400 bytes at most)": "FULL". */
    private static void typeIsFull() {
        for (int n = 1; n <= 8; n++) {
            int bytes = n;
            Check.due("type " + n + " up to 400", Edge.withText(400 - n).type(0, n), 400);
            Check.due("type " + n + " up to 399", Edge.withText(399 - n).type(0, n), 399);
            Edge.unchanged("type " + n + " up to 401", () -> Edge.withText(401 - bytes), x -> x.type(0, bytes), Edge.FULL);
            Edge.unchanged("type " + n + " at 400", () -> Edge.withText(400), x -> x.type(0, bytes), Edge.FULL);
        }
        TurnedRivers x = Edge.withText(393);
        Check.due("too much", x.type(0x2020202020202020L, 8), Edge.FULL);
        Check.due("less still fits", x.type(0x20202020202020L, 7), 400);
        Check.due("no more", x.type(0x20, 1), Edge.FULL);
        Check.due("cleared", x.clear(), 400);
        Check.due("fits again", x.type(0x2020202020202020L, 8), 8);
    }

    /** "the first of these: BAD .., STATE .., FULL". */
    private static void typeIsBadAheadOfFull() {
        int[] wrong = {9, 0, -1, Edge.MAX, Edge.MIN, 264};
        for (int n : wrong) {
            Edge.unchanged("type " + n + " at 400", () -> Edge.withText(400), x -> x.type(0, n), Edge.BAD);
            Edge.unchanged("type " + n + " at 393", () -> Edge.withText(393), x -> x.type(0, n), Edge.BAD);
        }
    }

    /** "THE TEXT is empty: how many bytes it had." */
    private static void clearing() {
        int[] lengths = {0, 1, 8, 399, 400};
        for (int bytes : lengths) {
            TurnedRivers x = Edge.withText(bytes);
            Check.due("clear() of " + bytes, x.clear(), bytes);
            Check.due("bytes", x.count(4), 0);
            Check.due("clear() again", x.clear(), 0);
            Check.that("clear() changes nothing else", Edge.allOf(x).equals(Edge.allOf(Edge.richWithoutText())));
        }
        Edge.unchanged("clear() of nothing", Edge::richWithoutText, TurnedRivers::clear, 0);
        TurnedRivers x = new TurnedRivers();
        Check.tell(x, "places 3;!!!!!!!");
        x.clear();
        Check.tell(x, "places 2;");
        Check.due("what was cleared doesn't count", x.land(), 1);
        Check.due("places", x.count(0), 2);
    }

    /** "THE TEXT becomes THE LAND, and is empty then": without any TOKEN, too. */
    private static void emptyText() {
        int[] lengths = {0, 1, 7, 399, 400};
        for (int bytes : lengths) {
            TurnedRivers x = Edge.withText(bytes);
            Check.due("land() of " + bytes + " blanks", x.land(), 0);
            int[] counts = {1, 0, 0, 0, 0};
            for (int what = 0; what < 5; what++) {
                Check.due("nothing told: count " + what, x.count(what), counts[what]);
            }
            Check.due("nothing told: image", x.back(0), Edge.STATE);
            Check.due("nothing told: the lake stays", x.lake(0, 0), 40);
        }
    }

    /** A text of 400 bytes is read to its last one. */
    private static void fullText() {
        String early = "places 8;" + " ".repeat(391);
        Check.landOf(early, 1);
        Check.due("places at the end", Check.landOf(" ".repeat(391) + "places 8;", 1).count(0), 8);
        fault(" ".repeat(392) + "places 8", 400);
        fault(" ".repeat(394) + "places", 400);
        fault(" ".repeat(399) + "p", 399);
        fault(" ".repeat(399) + "0", 399);
        fault(" ".repeat(399) + ";", 399);
        fault("places 8;" + " ".repeat(390) + ";", 399);
        fault("z".repeat(400), 0);
        fault("9".repeat(400), 0);
        fault("0".repeat(400), 0);
        fault(";".repeat(400), 0);
        fault("places " + "1".repeat(393), 7);
        StringBuilder many = new StringBuilder("places 1;");
        for (int i = 0; i < 26; i++) {
            many.append("follow 0 5 5 0;");
        }
        Check.due("399 bytes", many.length(), 399);
        Check.landOf(many.toString(), 27);
        Check.landOf(many + " ", 27);
        fault(many + ";", 399);
    }

    /** "(8 at most)", "one each", "4 at most": a land with all that there may be. */
    private static void allEightPlacesAndAllElse() {
        StringBuilder rivers = new StringBuilder("places 8;");
        for (int p = 7; p >= 0; p--) {
            rivers.append("river ").append(p).append(" 0 1 1 1 1 1 1 1 1 1 1 1 ").append(p).append(';');
        }
        TurnedRivers x = Check.landOf(rivers.toString(), 9);
        for (int p = 0; p < 8; p++) {
            Check.due("gives at " + p, x.gives(p, 2, 3), p);
            Check.due("keep at " + p, x.keep(p, 30), 0);
        }
        fault(rivers + "river 8", rivers.length() + 6);
        StringBuilder all = new StringBuilder("places 8;dam 7 9;");
        for (int t = 0; t < 4; t++) {
            all.append("town ").append(7 - t).append(" 1 2 3 ").append(t % 3).append(';');
        }
        for (int w = 0; w < 8; w++) {
            all.append("work ").append(w).append(' ').append((w + 1) % 8).append(" 1 2 3 4;");
        }
        TurnedRivers full = Check.landOf(all.toString(), 14);
        Check.due("towns", full.count(1), 4);
        Check.due("works", full.count(2), 8);
        Check.due("the last town", full.town(3, 0), 4);
        Check.due("the last work", full.work(7, 1), 0);
    }

    /** "places N (1 .. 8; the first of all)": "another ITEM than places first, places told again". */
    private static void placesFirstAndOnce() {
        for (int i = 1; i < ITEMS.length; i++) {
            fault(ITEMS[i], 0);
            fault(ITEMS[i] + "places 8;", 0);
            fault("   " + ITEMS[i], 3);
            String ahead = "places 8;" + ITEMS[i];
            fault(ahead + "places 8;", ahead.length());
        }
        fault("places 8;places 8;", 9);
        fault("places 8; places", 10);
        fault("places 8;places 9;", 9);
        Check.landOf("places 1;", 1);
        Check.landOf("places 8;", 1);
        fault("places 0;", 7);
        fault("places 9;", 7);
        fault("places 99;", 7);
    }

    /** "a second river or town at a PLACE", "a second dam". */
    private static void oneEach() {
        String river = "places 2;river 1" + RIVER;
        Check.landOf(river + "river 0" + RIVER, 3);
        fault(river + "river 1" + RIVER, river.length() + 6);
        fault(river + "river 1", river.length() + 6);
        fault(river + "river 0" + RIVER + "river 0", river.length() + 7 + RIVER.length() + 6);
        String town = "places 2;town 1 1 1 1 1;";
        Check.landOf(town + "town 0 1 1 1 1;", 3);
        fault(town + "town 1 1 1 1 1;", town.length() + 5);
        fault(town + "town 1", town.length() + 5);
        Check.landOf(town + "river 1" + RIVER + "dam 1 1;", 4);
        fault("places 2;dam 1 1;dam 1 1;", 17);
        fault("places 2;dam 1 1;dam 0 1;", 17);
        fault("places 2;dam 1 1;dam", 17);
        String works = "places 2;work 0 1 1 1 1 1;";
        Check.landOf(works + "work 0 1 1 1 1 1;work 1 0 1 1 1 1;", 4);
    }

    /** "a fifth town, a ninth work". */
    private static void notTooMany() {
        StringBuilder towns = new StringBuilder("places 8;");
        for (int t = 0; t < 4; t++) {
            towns.append("town ").append(t).append(" 1 1 1 1;");
            Check.landOf(towns.toString(), t + 2);
        }
        fault(towns + "town 4 1 1 1 1;", towns.length());
        fault(towns + "town 0 1 1 1 1;", towns.length());
        fault(towns + " town", towns.length() + 1);
        StringBuilder works = new StringBuilder("places 8;");
        for (int w = 0; w < 8; w++) {
            works.append("work 0 1 1 1 1 1;");
            Check.landOf(works.toString(), w + 2);
        }
        fault(works + "work 0 1 1 1 1 1;", works.length());
        fault(works + "work 0 0", works.length());
        fault(works + " work", works.length() + 1);
    }

    /** "a NUMBER beyond what it may be": each NUMBER of each ITEM, at both ends. */
    private static void ranges() {
        numberRange("places 8;", "river # 0 1 1 1 1 1 1 1 1 1 1 1 1;", 0, 7);
        numberRange("places 1;", "river # 0 1 1 1 1 1 1 1 1 1 1 1 1;", 0, 0);
        numberRange("places 8;", "river 0 # 1 1 1 1 1 1 1 1 1 1 1 1;", 0, 30);
        for (int i = 0; i < 12; i++) {
            numberRange("places 8;", "river 0 0" + " 1".repeat(i) + " #" + " 1".repeat(11 - i) + ";", 0, 30);
        }
        numberRange("places 8;", "town # 9 99 9 99;", 0, 7);
        numberRange("places 3;", "town # 9 99 9 99;", 0, 2);
        numberRange("places 8;", "town 0 # 99 9 99;", 0, 9);
        numberRange("places 8;", "town 0 9 # 9 0;", 0, 99);
        numberRange("places 8;", "town 0 9 99 # 99;", 0, 9);
        numberRange("places 8;", "work # 7 30 20 99 5;", 0, 6);
        numberRange("places 8;", "work 7 # 30 20 99 5;", 0, 6);
        numberRange("places 2;", "work 0 # 30 20 99 5;", 1, 1);
        numberRange("places 8;", "work 0 7 # 20 99 5;", 1, 30);
        numberRange("places 8;", "work 0 7 30 # 99 5;", 0, 20);
        numberRange("places 8;", "work 0 7 30 20 # 5;", 0, 99);
        numberRange("places 8;", "work 0 7 30 20 99 #;", 1, 5);
        numberRange("places 8;", "dam # 9;", 0, 7);
        numberRange("places 5;", "dam # 9;", 0, 4);
        numberRange("places 8;", "dam 7 #;", 1, 9);
        numberRange("places 8;", "follow # 3 3 4;", 0, 2);
        numberRange("", "places #;", 1, 8);
    }

    private static void numberRange(String ahead, String item, int low, int high) {
        int items = ahead.isEmpty() ? 1 : 2;
        int place = ahead.length() + item.indexOf('#');
        for (int v = 0; v <= 101; v++) {
            boolean near = Math.abs(v - low) <= 2 || Math.abs(v - high) <= 2 || v >= 98;
            String text = ahead + item.replace("#", Integer.toString(v));
            if (v >= low && v <= high) {
                Check.landOf(text, items);
            } else if (near && !isWorkToItself(text)) {
                fault(text, place);
            }
        }
        fault(ahead + item.replace("#", "4294967297"), place);
        fault(ahead + item.replace("#", "18446744073709551617"), place);
        fault(ahead + item.replace("#", "0" + low), place);
        fault(ahead + item.replace("#", "-1"), place);
        fault(ahead + item.replace("#", "+1"), place);
    }

    /** Where A is B, B is wrong, and not the A that was told. */
    private static boolean isWorkToItself(String text) {
        return text.contains("work 7 7");
    }

    /** "Y 0 .. V". */
    private static void worthOfTheSecondWant() {
        int[] worths = {0, 1, 50, 98, 99};
        for (int v : worths) {
            Check.landOf("places 1;town 0 9 " + v + " 9 0;", 2);
            Check.landOf("places 1;town 0 9 " + v + " 9 " + v + ";", 2);
            String text = "places 1;town 0 9 " + v + " 9 ";
            fault(text + (v + 1) + ";", text.length());
        }
    }

    /** "WORKS .. lead from a PLACE to another one": "a B that is A". */
    private static void toAnotherPlace() {
        for (int a = 0; a < 8; a++) {
            for (int b = 0; b < 8; b++) {
                String text = "places 8;work " + a + " " + b + " 1 1 1 1;";
                if (a == b) {
                    fault(text, 16);
                } else {
                    Check.landOf(text, 2);
                }
            }
        }
        fault("places 1;work 0 0 1 1 1 1;", 16);
        fault("places 1;work 0 1 1 1 1 1;", 16);
        fault("places 1;work 1 0 1 1 1 1;", 14);
    }

    /** "0 .. 10, 10 together": "a C by which it is not 10". */
    private static void tenTogether() {
        for (int a = 0; a <= 10; a++) {
            for (int b = 0; b <= 10; b++) {
                for (int c = 0; c <= 10; c++) {
                    String ahead = "places 1;follow 1 " + a + " " + b + " ";
                    if (a + b + c == 10) {
                        Check.landOf(ahead + c + ";", 2);
                    } else if (Math.abs(a + b + c - 10) == 1 || a == 10 || c == 10) {
                        fault(ahead + c + ";", ahead.length());
                    }
                }
            }
        }
        fault("places 1;follow 1 11 0 0;", 18);
        fault("places 1;follow 1 0 11 0;", 20);
        fault("places 1;follow 1 0 0 11;", 22);
        fault("places 1;follow 1 10 10;", 23);
        fault("places 1;follow 1 10 10", 23);
    }

    /** "else 0 10 0"; "follow told again: what is later counts". */
    private static void followToldAgain() {
        String land = "places 1;river 0 0 1 1 1 1 2 2 2 2 4 4 4 4;town 0 9 1 0 0;";
        TurnedRivers x = Check.landOf(land + "follow 0 10 0 0;follow 0 0 0 10;follow 2 5 0 5;", 6);
        Check.due("behind wet, told again", x.mean(0, 2, 0), 40 + 160);
        Check.due("behind mean, not told", x.mean(1, 2, 0), 80 + 80);
        Check.due("behind dry, told once", x.mean(2, 2, 0), 160 + 5 * 4 + 5 * 16);
        Check.tell(x, land);
        Check.due("land() without follow", x.land(), 3);
        Check.due("behind wet", x.mean(0, 2, 0), 40 + 80);
        Check.due("behind mean", x.mean(1, 2, 0), 80 + 80);
        Check.due("behind dry", x.mean(2, 2, 0), 160 + 80);
        Check.tell(x, land + "follow 0 10 0 0;follow 0 0 9 0;");
        Check.due("told again, but not well", x.land(), -10 - land.length() - 16 - 13);
        Check.due("behind wet, as ahead of it", x.mean(0, 2, 0), 40 + 80);
    }

    /** "a NUMBER above 99 or with a 0 ahead of others, that TOKEN's". */
    private static void numbers() {
        String town = "places 1;town 0 0 ";
        Check.landOf(town + "99 0 99;", 2);
        Check.landOf(town + "0 0 0;", 2);
        String[] wrong = {"100", "101", "999", "00", "000", "01", "09", "010", "099", "0100", "2147483648", "4294967296"};
        for (String number : wrong) {
            fault(town + number + " 0 0;", 18);
            fault(town + "  " + number + " 0 0;", 20);
            fault(town + number, 18);
            fault(number, 0);
            fault("places 1;" + number, 9);
            fault("places 1;dam 0 1 " + number, 17);
        }
    }

    /** "TOKENS are words of letters a .. z (places, river, town, work, dam, follow)". */
    private static void words() {
        String[] known = {"places", "river", "town", "work", "dam", "follow"};
        for (String word : known) {
            String shorter = word.substring(0, word.length() - 1);
            String[] wrong = {
                shorter, word.substring(1), word + "s", word + word, "a" + word, word.toUpperCase(), shorter + "z",
                "z" + word.substring(1), shorter + (char) (word.charAt(word.length() - 1) + 128), "_" + word,
            };
            for (String w : wrong) {
                fault(w + " 1;", 0);
                fault("places 1;" + w, 9);
                fault("places 1; " + w + " 0 1;", 10);
                fault("places " + w, 7);
            }
        }
        fault("a", 0);
        fault("z", 0);
        fault("placesriver", 0);
    }

    /** "the text's length, if it ends too early": behind each TOKEN but the last, with blanks and without. */
    private static void endsTooEarly() {
        for (String item : ITEMS) {
            String ahead = item.startsWith("places") ? "" : "places 8;";
            String[] tokens = item.split(" ");
            StringBuilder text = new StringBuilder(ahead);
            for (int i = 0; i < tokens.length - 1; i++) {
                text.append(tokens[i]);
                fault(text.toString(), text.length());
                fault(text + "   ", text.length() + 3);
                text.append(' ');
            }
            Check.landOf(text + ";", ahead.isEmpty() ? 1 : 2);
            Check.landOf(text + ";   ", ahead.isEmpty() ? 1 : 2);
        }
    }

    /** "the first byte of the first TOKEN that can't stand there": each TOKEN changed into one of another sort. */
    private static void tokensThatCantStandThere() {
        for (String item : ITEMS) {
            String ahead = item.startsWith("places") ? "" : "places 8;";
            String[] tokens = item.split(" ");
            for (int i = 0; i < tokens.length; i++) {
                boolean isNumber = tokens[i].charAt(0) >= '0' && tokens[i].charAt(0) <= '9';
                String[] others = {
                    isNumber ? ";" : "1", i == tokens.length - 1 ? "0" : ";", isNumber ? "dam" : "99", "100", "00", "!",
                    "zzz", "places", "-",
                };
                for (String other : others) {
                    if (!other.equals(tokens[i])) {
                        changedToken(ahead, tokens, i, other);
                    }
                }
            }
        }
    }

    private static void changedToken(String ahead, String[] tokens, int changed, String other) {
        StringBuilder text = new StringBuilder(ahead);
        int place = 0;
        for (int i = 0; i < tokens.length; i++) {
            if (i == changed) {
                place = text.length();
            }
            text.append(i == changed ? other : tokens[i]).append(' ');
        }
        fault(text.toString(), place);
    }

    /** "blanks (32) between TOKENS"; "a byte that begins none". */
    private static void everyByte() {
        for (int b = 0; b < 256; b++) {
            char c = (char) b;
            boolean digit = c >= '0' && c <= '9';
            boolean letter = c >= 'a' && c <= 'z';
            byteIs("places 8;" + c, c == ' ' ? 1 : -19);
            byteIs(c + "places 8;", c == ' ' ? 1 : -10);
            byteIs("places " + c + ";", c >= '1' && c <= '8' ? 1 : c == ' ' ? -18 : -17);
            byteIs("places" + c + "8;", c == ' ' ? 1 : letter ? -10 : -16);
            byteIs("places 8" + c + ";", c == ' ' ? 1 : digit ? -17 : c == ';' ? -19 : -18);
            byteIs("places 8;dam 0 " + c + ";", c >= '1' && c <= '9' ? 2 : c == ' ' ? -26 : -25);
            byteIs("pla" + c + "es 8;", c == 'c' ? 1 : -10);
        }
    }

    private static void byteIs(String text, int want) {
        Check.landOf(text, want);
    }

    /** "the first TOKEN": of several wrong ones. */
    private static void firstOfSeveralFaults() {
        fault("dam 9 10;places 0;", 0);
        fault("places 9;dam 9 10;!", 7);
        fault("places 8;dam 8 10;!", 13);
        fault("places 8;dam 7 10;!", 15);
        fault("places 8;dam 7 9 ! zzz 100", 17);
        fault("places 8;dam 7 zzz 100 !", 15);
        fault("places 8;dam 7 100 zzz !", 15);
        fault("places 8;town 8 10 100 10 100;", 14);
        fault("places 8;town 7 10 100 10 100;", 16);
        fault("places 8;work 8 8 0 21 100 0;", 14);
        fault("places 8;work 7 7 0 21 100 0;", 16);
        fault("places 8;work 7 6 0 21 100 0;", 18);
        fault("places 8;work 7 6 1 21 100 0;", 20);
        fault("places 8;work 7 6 1 20 100 0;", 23);
        fault("places 8;work 7 6 1 20 99 0;", 26);
    }

    /** "A LAND read anew: THE SENDING is nothing, SHARES 0, IMAGES are gone." */
    private static void readAnew() {
        TurnedRivers x = Edge.withTwoImages();
        x.clear();
        Check.tell(x, Edge.LAND);
        Check.due("land() again", x.land(), Edge.LAND_ITEMS);
        Check.due("the text is empty", x.count(4), 0);
        for (int w = 0; w < 3; w++) {
            Check.due("sending " + w, x.send(w, 0), 0);
        }
        for (int t = 0; t < 2; t++) {
            Check.due("share " + t, x.share(t, 0), 0);
        }
        Check.due("image 0", x.back(0), Edge.STATE);
        Check.due("image 1", x.back(1), Edge.STATE);
        Check.due("KEEP is as the text tells", x.keep(0, 0), 2);
        Check.due("LEVEL stays", x.lake(0, 0), 41);
        Check.due("SALT stays", x.lake(1, 0), 9);
        Check.due("SUN stays", x.lake(2, 0), 5);
        Check.due("THE TRACE stays", x.trace(), 1011);
    }

    /** "-10 less FAULT: nothing changes": images, sending, shares, and THE TEXT among it. */
    private static void faultsLeaveTheLand() {
        Edge.unchanged("land() of a text not ended", Edge::withTwoImages, TurnedRivers::land, -10 - Edge.BEGUN.length());
        Edge.unchanged("land() twice", Edge::withTwoImages, x -> x.land() + x.land(), -52);
        Edge.unchanged("land() of a wrong byte", () -> Edge.withText(0), x -> {
            x.type('!', 1);
            int answer = x.land();
            x.clear();
            return answer;
        }, -10);
    }

    /** The FAULT, and that neither the land nor the text has changed. */
    private static void fault(String text, int place) {
        TurnedRivers x = Check.landOf("places 3;river 1 3 9 9 9 9 9 9 9 9 9 9 9 7;town 1 1 2 3 1;work 0 1 2 3 4 5;dam 2 4;", 5);
        x.send(0, 7);
        x.share(0, 8);
        x.image(1);
        Check.tell(x, text);
        Check.due("land() of '" + text + "'", x.land(), -10 - place);
        Check.due("text stays: '" + text + "'", x.count(4), text.length());
        Check.due("land() of '" + text + "' again", x.land(), -10 - place);
        int[] counts = {3, 1, 1, 4};
        for (int what = 0; what < 4; what++) {
            Check.due("count " + what + " stays: '" + text + "'", x.count(what), counts[what]);
        }
        Check.due("river stays", x.gives(1, 2, 3), 7);
        Check.due("no river comes", x.keep(0, 0), Edge.BAD);
        Check.due("town stays", x.town(0, 3), 3);
        Check.due("work stays", x.work(0, 5), 5);
        Check.due("sending stays", x.send(0, 0), 7);
        Check.due("share stays", x.share(0, 0), 8);
        Check.due("image stays", x.back(1), 0);
        Check.due("no image comes", x.back(0), Edge.STATE);
        Check.due("follow stays", x.mean(0, 2, 0), 10 * x.year(0, 0) + 10 * x.year(1, 0));
        Check.due("KEEP stays", x.keep(1, 0), 3);
    }
}
