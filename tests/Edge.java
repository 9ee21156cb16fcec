import java.util.ArrayList;
import java.util.List;

/**
 * What the Edge*Test classes share: a land of which everything is told, all that can be asked of an object, and calls
 * that are refused. No object here is asked more than 512 times: beyond that the document promises nothing.
 */
final class Edge {
    static final int BAD = -1, STATE = -2, FULL = -3, NONE = -9, NO = -1000000;
    static final int MIN = Integer.MIN_VALUE, MAX = Integer.MAX_VALUE;

    static final String LAND = "places 4;river 0 2 9 8 7 6 5 4 3 2 30 0 1 2;river 2 0 3 3 3 3 3 3 3 3 3 3 3 3;"
            + "town 1 3 20 2 9;town 3 4 15 4 1;work 0 1 5 3 10 1;work 0 2 6 1 20 2;work 2 3 3 0 5 5;dam 0 6;"
            + "follow 0 3 5 2;follow 2 1 4 5;";
    static final int LAND_ITEMS = 11;
    /** Not ended yet, so that land() can show later whether THE TEXT is still the same. */
    static final String BEGUN = "places 5;dam 3 2";

    interface Maker {
        TurnedRivers make();
    }

    interface Call {
        long of(TurnedRivers x);
    }

    interface CallWith {
        long of(TurnedRivers x, int v);
    }

    private Edge() {
    }

    /** All things are told, and an IMAGE 0 that is not as they stand; no IMAGE 1. */
    static TurnedRivers rich() {
        TurnedRivers x = richWithoutText();
        Check.tell(x, BEGUN);
        return x;
    }

    static TurnedRivers richWithoutText() {
        TurnedRivers x = Check.landOf(LAND, LAND_ITEMS);
        x.keep(0, 1);
        x.send(0, 2);
        x.send(1, 1);
        x.share(0, 70);
        x.share(1, 80);
        x.lake(0, 50);
        x.lake(1, 7);
        x.lake(2, 3);
        x.image(0);
        x.send(0, 3);
        x.send(2, 2);
        x.share(0, 75);
        x.lake(0, 40);
        x.lake(1, 9);
        x.lake(2, 5);
        x.value(3, 1);
        return x;
    }

    static TurnedRivers withTwoImages() {
        TurnedRivers x = rich();
        x.image(1);
        x.send(1, 6);
        x.share(1, 99);
        x.lake(0, 41);
        return x;
    }

    /** A text of so many bytes, behind a rich land. */
    static TurnedRivers withText(int bytes) {
        TurnedRivers x = richWithoutText();
        Check.tell(x, " ".repeat(bytes));
        return x;
    }

    /** All answers there are of an object; it is of no use behind that. */
    static List<Long> allOf(TurnedRivers x) {
        List<Long> all = new ArrayList<>();
        for (int what = 0; what <= 4; what++) {
            add(all, x.count(what));
        }
        landOf(x, all);
        for (int kind = 0; kind < 3; kind++) {
            add(all, x.year(kind, -1), x.mean(kind, 3, -1), x.treaty(kind, 0), x.treaty(kind, 1), x.treaty(kind, 2));
            add(all, x.judge(kind, 1, 0), x.judge(kind, 1, 1), x.judge(kind, 1, 2));
        }
        add(all, x.dam(5, 2, -1, 0), x.dam(5, 2, -1, 1), x.best(99, 0), x.order(7, 9, 1));
        add(all, x.salty(), x.level(3, 1), x.hold(20, 9), x.trace());
        standingOf(x, all);
        for (int image = 0; image < 2; image++) {
            add(all, x.back(image));
            standingOf(x, all);
        }
        int places = x.count(0);
        for (int place = 0; place < places; place++) {
            add(all, x.keep(place, 0));
        }
        add(all, x.type(';', 1), x.land(), x.count(0), x.count(1), x.count(2), x.count(3), x.clear());
        return all;
    }

    private static void landOf(TurnedRivers x, List<Long> all) {
        int places = x.count(0);
        int towns = x.count(1);
        int works = x.count(2);
        for (int i = 0; i < places * 12; i++) {
            add(all, x.gives(i / 12, i / 4 % 3, i % 4));
        }
        for (int i = 0; i < towns * 5; i++) {
            add(all, x.town(i / 5, i % 5));
        }
        for (int i = 0; i < works * 6; i++) {
            add(all, x.work(i / 6, i % 6));
        }
    }

    private static void standingOf(TurnedRivers x, List<Long> all) {
        int works = x.count(2);
        int towns = x.count(1);
        for (int w = 0; w < works; w++) {
            add(all, x.send(w, 0));
        }
        for (int t = 0; t < towns; t++) {
            add(all, x.share(t, 0));
        }
        for (int what = 0; what < 3; what++) {
            add(all, x.lake(what, 0));
        }
    }

    private static void add(List<Long> all, long... answers) {
        for (long answer : answers) {
            all.add(answer);
        }
    }

    /** The call answers as told, and all that can be asked later is as if there had been no such call. */
    static void unchanged(String call, Maker maker, Call c, long want) {
        TurnedRivers x = maker.make();
        Check.due(call, c.of(x), want);
        List<Long> got = allOf(x);
        List<Long> due = allOf(maker.make());
        Check.that(call + " changes nothing: " + got + ", due is " + due, got.equals(due));
    }

    static void refused(String call, long refusal, Call c) {
        unchanged(call, Edge::rich, c, refusal);
    }

    /** Well from low to high, refused beyond: next to both ends, far out, and where lower bits alone would be well. */
    static void range(String what, int low, int high, long refusal, CallWith c) {
        int[] beyond = {
            low - 1, high + 1, low - 2, high + 2, -1 - high, low - 256, high + 256, 256 + low, 65536 + low, 1 << 30,
            MIN + low, MIN, MIN + 1, MAX - 1, MAX,
        };
        for (int v : beyond) {
            if (v < low || v > high) {
                refused(what + " " + v, refusal, x -> c.of(x, v));
            }
        }
        well(what, low, refusal, c);
        well(what, high, refusal, c);
        well(what, low + (high - low) / 2, refusal, c);
    }

    private static void well(String what, int v, long refusal, CallWith c) {
        Check.that(what + " " + v + " is well", c.of(rich(), v) != refusal);
    }
}
