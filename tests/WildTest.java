import java.lang.management.ManagementFactory;
import java.util.Random;

/** No call ever throws, whatever it is asked in whatever state; and no call makes anything that stays. */
public final class WildTest {
    private static final int[] NUMBERS = {
        Integer.MIN_VALUE, Integer.MIN_VALUE + 1, -1000, -2, -1, 0, 1, 2, 3, 4, 5, 6, 7, 8, 9, 15, 20, 21, 30, 31, 32,
        40, 63, 99, 100, 242, 255, 256, 999, 1000, 9999, 10000, Integer.MAX_VALUE - 1, Integer.MAX_VALUE,
    };

    public static void main(String[] args) {
        Random r = new Random(77);
        for (int i = 0; i < 150; i++) {
            String text = i % 5 == 0 ? "" : Model.byChance(r, i % 2 == 0).text();
            TurnedRivers x = new TurnedRivers();
            Check.tell(x, text);
            Check.that("land", text.isEmpty() == (x.land() == 0));
            for (int k = 0; k < 400; k++) {
                ask(x, r);
            }
            Check.that("still there", x.count(0) >= 1);
        }
        texts(r);
        room();
        Check.end("WildTest");
    }

    private static int wild(Random r) {
        return r.nextInt(3) == 0 ? NUMBERS[r.nextInt(NUMBERS.length)] : r.nextInt(9) - 1;
    }

    private static long ask(TurnedRivers x, Random r) {
        int a = wild(r);
        int b = wild(r);
        int c = wild(r);
        int d = wild(r);
        switch (r.nextInt(30)) {
            case 0: return x.type(r.nextLong(), a);
            case 1: return r.nextInt(9) == 0 ? x.clear() : 0;
            // An empty text would take the LAND away too often.
            case 2: return r.nextInt(60) == 0 || x.count(4) > 0 ? x.land() : 0;
            case 3: return x.gives(a, b, c);
            case 4: return x.keep(a, b);
            case 5: return x.town(a, b);
            case 6: return x.work(a, b);
            case 7: return x.most(a, b, c);
            case 8: return x.price(a, b, c, d);
            case 9: return x.edge(a, b, c, d);
            case 10: return x.delta(a, b, c, d);
            case 11: return x.send(a, b);
            case 12: return x.judge(a, b, c);
            case 13: return x.year(a, b);
            case 14: return x.best(a, b);
            case 15: return x.order(a, b, c);
            case 16: return x.mean(a, b, c);
            case 17: return x.dam(a, b, c, d);
            case 18: return x.lake(a, b);
            case 19: return x.level(a, b);
            case 20: return x.hold(a, b);
            case 21: return x.salty();
            case 22: return x.alone(a, b);
            case 23: return x.share(a, b);
            case 24: return x.treaty(a, b);
            case 25: return x.value(a, b);
            case 26: return x.image(a);
            case 27: return x.back(a);
            case 28: return x.count(a);
            default: return x.trace();
        }
    }

    /** Well told texts with one byte changed, cut off, or put in: a FAULT is never beyond the text. */
    private static void texts(Random r) {
        for (int i = 0; i < 3000; i++) {
            StringBuilder s = new StringBuilder(Model.byChance(r, true).text());
            int at = r.nextInt(s.length());
            char c = r.nextBoolean() ? (char) r.nextInt(256) : "0123456789 ;adw".charAt(r.nextInt(15));
            switch (r.nextInt(3)) {
                case 0: s.setCharAt(at, c); break;
                case 1: s.setLength(at); break;
                default: s.insert(at, c); break;
            }
            TurnedRivers x = new TurnedRivers();
            Check.tell(x, s.toString());
            int length = x.count(4);
            int got = x.land();
            boolean read = s.toString().isBlank() ? got == 0 : got > 0;
            Check.that("land() of " + s + " answered " + got, read || got <= -10 && got >= -10 - length);
            Check.due("text", x.count(4), read ? 0 : length);
        }
    }

    private static long made() {
        com.sun.management.ThreadMXBean bean = (com.sun.management.ThreadMXBean) ManagementFactory.getThreadMXBean();
        return bean.getThreadAllocatedBytes(Thread.currentThread().getId());
    }

    private static void room() {
        String text = "places 5;river 0 2 20 10 6 9 15 8 4 7 9 5 2 3;town 3 4 30 6 10;town 4 3 50 3 5;work 0 2 12 1 4 2;"
                + "work 2 3 8 2 3 1;work 2 4 6 8 5 3;dam 0 6;";
        askAll(text);
        made();
        long before = made();
        long bare = made() - before;
        TurnedRivers x = new TurnedRivers();
        long object = made() - before - bare;
        Check.that("an object has " + object + " bytes", object < 64000);
        Check.tell(x, text);
        x.land();
        before = made();
        for (int i = 0; i < 20; i++) {
            all(x);
        }
        long calls = made() - before - bare;
        Check.that("calls made " + calls + " bytes", calls < 2000);
    }

    private static void askAll(String text) {
        TurnedRivers x = new TurnedRivers();
        Check.tell(x, text);
        x.land();
        all(x);
    }

    private static long all(TurnedRivers x) {
        long sum = x.type('!', 1) + x.land() + x.clear() + x.gives(0, 0, 0) + x.keep(0, 1) + x.town(0, 0) + x.work(0, 0);
        sum += x.most(0, 0, 7) + x.price(0, 0, 7, 1) + x.edge(0, 0, 7, 1) + x.delta(0, 0, 7, 0) + x.send(0, 3);
        sum += x.judge(0, 0, 0) + x.judge(0, 0, 2) + x.year(0, 7) + x.best(99, 0) + x.order(7, 9, 1) + x.mean(0, 6, 7);
        sum += x.dam(99, 5, 7, 0) + x.lake(0, 50) + x.level(9, 9) + x.hold(9, 9) + x.salty() + x.alone(0, 3);
        return sum + x.share(0, 9) + x.treaty(0, 0) + x.value(3, 0) + x.image(0) + x.back(0) + x.count(0) + x.trace();
    }
}
