import java.lang.reflect.Method;
import java.util.ArrayList;
import java.util.Arrays;
import java.util.List;
import java.util.Random;

/**
 * All promises together: runs of up to 512 calls by chance (of told seeds) on one object, each answer compared with
 * what Plain, the document told a second time, answers in the same run.
 */
public final class RunsTest {
    private static final int CALLS = 512;
    private static final int PLACE = -1, TOWN = -2, WORK = -3, SET = -4;
    /** The last number that is well of each argument, or what it is a number of; a SET may be any number. */
    private static final Object[][] ARGUMENTS = {
        {"gives", PLACE, 2, 3}, {"keep", PLACE, 30}, {"keep", PLACE, 2}, {"keep", PLACE, 2}, {"keep", PLACE, 2},
        {"town", TOWN, 4}, {"work", WORK, 5}, {"most", 2, 3, SET}, {"edge", 2, 3, SET, WORK}, {"edge", 2, 3, SET, WORK},
        {"price", 2, 3, SET, PLACE}, {"edge", 2, 3, SET, WORK}, {"delta", 2, 3, SET, PLACE}, {"send", WORK, 30},
        {"judge", 2, 3, 2}, {"year", 2, SET}, {"best", 999, 1}, {"order", SET, 20, 1}, {"mean", 2, 6, SET},
        {"dam", 242, 5, SET, 1}, {"dam", 2, 5, SET, 1}, {"lake", 2, 99}, {"lake", 1, 999}, {"level", 40, 99},
        {"hold", 999, 40}, {"hold", 99, 40}, {"salty"}, {"alone", 2, 15}, {"alone", 2, 3}, {"share", TOWN, 9999},
        {"share", TOWN, 400}, {"treaty", 2, 2}, {"value", 5, WORK}, {"image", 1}, {"back", 1}, {"count", 4}, {"trace"},
        {"type", SET, 8},
    };

    private final Random r;
    private final TurnedRivers x = new TurnedRivers();
    private final Plain plain = new Plain();
    private final List<String> run = new ArrayList<>();

    private RunsTest(int seed) {
        r = new Random(seed);
    }

    public static void main(String[] args) throws Exception {
        int from = args.length == 2 ? Integer.parseInt(args[0]) : 0;
        int to = args.length == 2 ? Integer.parseInt(args[1]) : 240;
        for (int seed = from; seed < to; seed++) {
            new RunsTest(seed).go(seed);
        }
        Check.end("RunsTest");
    }

    private void go(int seed) throws Exception {
        // Eight WORKS make 256 sets, which the slow way can't go through in every run.
        int works = seed % 20 == 0 ? 8 : 5;
        if (r.nextInt(8) != 0) {
            tellLand(works);
        }
        while (run.size() < CALLS) {
            if (r.nextInt(90) == 0) {
                tellLand(works);
            } else {
                ask(ARGUMENTS[r.nextInt(ARGUMENTS.length)]);
            }
        }
    }

    private void tellLand(int works) throws Exception {
        Model m = r.nextInt(3) == 0 ? Model.crowded(r) : Model.byChance(r, r.nextInt(4) == 0);
        m.works = Math.min(m.works, works);
        StringBuilder text = new StringBuilder(shuffled(m.text()));
        if (r.nextInt(4) == 0) {
            spoil(text);
        }
        if (r.nextInt(9) != 0) {
            call("clear");
        }
        for (int at = 0; at < text.length(); ) {
            int n = Math.min(r.nextInt(9) == 0 ? 1 + r.nextInt(8) : 8, text.length() - at);
            long v = r.nextLong();
            for (int i = 0; i < n; i++) {
                v = v << 8 | text.charAt(at + i);
            }
            call("type", v, (long) n);
            at += n;
        }
        call("land");
    }

    /** ITEMS behind the first may come in any row. */
    private String shuffled(String text) {
        List<String> items = new ArrayList<>(Arrays.asList(text.split("(?<=;)")));
        java.util.Collections.shuffle(items.subList(1, items.size()), r);
        return String.join(r.nextBoolean() ? "" : " ", items);
    }

    private void spoil(StringBuilder text) {
        int at = r.nextInt(text.length());
        char c = r.nextInt(4) == 0 ? (char) r.nextInt(256) : "0123456789 ;adw".charAt(r.nextInt(15));
        switch (r.nextInt(4)) {
            case 0: text.setCharAt(at, c); break;
            case 1: text.setLength(at); break;
            case 2: text.deleteCharAt(at); break;
            default: text.insert(at, c); break;
        }
    }

    private void ask(Object[] told) throws Exception {
        Object[] arguments = new Object[told.length - 1];
        for (int i = 0; i < arguments.length; i++) {
            arguments[i] = number((Integer) told[i + 1]);
        }
        if (told[0].equals("type") && r.nextInt(6) != 0) {
            return;
        }
        call((String) told[0], arguments);
    }

    private long number(int last) {
        int sort = r.nextInt(60);
        if (sort == 0) {
            return r.nextInt();
        }
        if (last == SET) {
            return sort < 20 ? 255 : r.nextInt(256);
        }
        int high = last < 0 ? plain.count(-1 - last) - 1 : last;
        if (sort < 3 || high < 0) {
            return sort % 2 == 0 ? -1 : high + 1;
        }
        return r.nextInt(high + 1);
    }

    private void call(String name, Object... arguments) throws Exception {
        if (run.size() == CALLS) {
            return;
        }
        run.add(name + Arrays.toString(arguments));
        long got = answer(x, name, arguments);
        long want = answer(plain, name, arguments);
        Check.due(got == want ? name : "the last of " + run + ":", got, want);
    }

    private static long answer(Object asked, String name, Object[] arguments) throws Exception {
        for (Method m : asked.getClass().getDeclaredMethods()) {
            if (m.getName().equals(name)) {
                Object[] fitting = new Object[arguments.length];
                for (int i = 0; i < fitting.length; i++) {
                    long v = (Long) arguments[i];
                    if (m.getParameterTypes()[i] == int.class) {
                        fitting[i] = (int) v;
                    } else {
                        fitting[i] = v;
                    }
                }
                return ((Number) m.invoke(asked, fitting)).longValue();
            }
        }
        throw new IllegalStateException("no call " + name);
    }
}
