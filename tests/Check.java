/** What the tests share: answers that are due, counted, and lands told by a text. */
final class Check {
    private static int wrong = 0;
    private static int asked = 0;

    private Check() {
    }

    static void due(String call, long got, long want) {
        asked++;
        if (got != want) {
            wrong++;
            System.out.println(call + " answered " + got + ", due is " + want);
        }
    }

    static void that(String what, boolean holds) {
        due(what, holds ? 1 : 0, 1);
    }

    /** Types a text, 1 to 8 bytes a call, with bytes above those that count, which must not matter. */
    static void tell(TurnedRivers x, String text) {
        int at = 0;
        while (at < text.length()) {
            int n = Math.min(8, text.length() - at);
            long v = -1;
            for (int i = 0; i < n; i++) {
                v = v << 8 | text.charAt(at + i) & 255;
            }
            at += n;
            x.type(v, n);
        }
    }

    static TurnedRivers landOf(String text, int items) {
        TurnedRivers x = new TurnedRivers();
        tell(x, text);
        due("land() of " + text, x.land(), items);
        return x;
    }

    static TurnedRivers landOf(Model model) {
        TurnedRivers x = new TurnedRivers();
        tell(x, model.text());
        that("land() of " + model.text(), x.land() > 0);
        return x;
    }

    static void end(String test) {
        System.out.println(test + ": " + asked + " answers, " + wrong + " wrong");
        if (wrong != 0 || asked == 0) {
            System.exit(1);
        }
    }
}
