/** Promises 27 to 29 and 31: KINDS of WORKS, IMAGES, THE TRACE. */
public final class KindImageTest {
    public static void main(String[] args) {
        values();
        images();
        Check.end("KindImageTest");
    }

    private static void values() {
        TurnedRivers x = Check.landOf("places 3;town 0 1 1 1 1;town 1 1 1 1 1;town 2 1 1 1 1;"
                + "work 0 1 7 20 13 3;work 1 2 2 5 99 5;", 6);
        int[][] want = {{7, 21, -13, 34, -26, 10}, {2, 10, -3, 109, -6, 5}};
        long[] traces = {1, 11, 101, 1011, 10101, 100001};
        long trace = 0;
        for (int w = 0; w < 2; w++) {
            for (int kind = 0; kind < 6; kind++) {
                Check.due("value(" + kind + ", " + w + ")", x.value(kind, w), want[w][kind]);
                trace += traces[kind];
                Check.due("trace()", x.trace(), trace);
            }
        }
        int[][] wrong = {{-1, 0}, {6, 0}, {0, -1}, {0, 2}, {Integer.MAX_VALUE, 1}, {5, Integer.MIN_VALUE}};
        for (int[] b : wrong) {
            Check.due("value", x.value(b[0], b[1]), -1000000);
        }
        Check.due("trace() stays", x.trace(), trace);
        x.image(0);
        x.value(0, 0);
        x.back(0);
        Check.due("trace() is in no image", x.trace(), trace + 1);
    }

    private static void tellAll(TurnedRivers x, int v) {
        x.send(0, v);
        x.send(1, v + 1);
        x.lake(0, v + 2);
        x.lake(1, v + 3);
        x.lake(2, v + 4);
        x.share(0, v + 5);
        x.share(1, v + 6);
    }

    private static void dueAll(TurnedRivers x, int v) {
        Check.due("send 0", x.send(0, 0), v);
        Check.due("send 1", x.send(1, 0), v + 1);
        Check.due("level", x.lake(0, 0), v + 2);
        Check.due("salt", x.lake(1, 0), v + 3);
        Check.due("sun", x.lake(2, 0), v + 4);
        Check.due("share 0", x.share(0, 0), v + 5);
        Check.due("share 1", x.share(1, 0), v + 6);
    }

    private static void images() {
        TurnedRivers x = Check.landOf("places 2;river 0 1 2 2 2 2 2 2 2 2 2 2 2 2;town 0 1 1 1 1;town 1 1 1 1 1;"
                + "work 0 1 7 2 1 3;work 1 0 2 5 9 5;", 6);
        Check.due("image(-1)", x.image(-1), -1);
        Check.due("image(2)", x.image(2), -1);
        Check.due("back(-1)", x.back(-1), -1);
        Check.due("back(2)", x.back(2), -1);
        Check.due("back(0)", x.back(0), -2);
        Check.due("back(1)", x.back(1), -2);
        tellAll(x, 1);
        Check.due("image(0)", x.image(0), 3);
        Check.due("back(1)", x.back(1), -2);
        tellAll(x, 20);
        Check.due("image(1)", x.image(1), 22);
        dueAll(x, 20);
        Check.due("back(0)", x.back(0), 3);
        dueAll(x, 1);
        Check.due("back(0) again", x.back(0), 3);
        dueAll(x, 1);
        Check.due("back(1)", x.back(1), 22);
        dueAll(x, 20);
        x.back(1);
        Check.due("image(0) told anew", x.image(0), 22);
        dueAll(x, 20);
        x.back(0);
        dueAll(x, 20);
        x.keep(0, 2);
        x.type(32, 1);
        x.back(0);
        Check.due("KEEP is in no image", x.keep(0, 0), 2);
        Check.due("THE TEXT is in no image", x.count(4), 1);
    }
}
