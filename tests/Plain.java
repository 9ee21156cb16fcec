import java.util.ArrayList;
import java.util.Arrays;
import java.util.HashMap;
import java.util.List;
import java.util.Map;
import java.util.regex.Matcher;
import java.util.regex.Pattern;

/**
 * The document told a second time, slowly and by other ways than the class goes: nothing is kept from one question to
 * the next but what the document tells. Its methods have the face's names; RunsTest asks both the same.
 */
final class Plain {
    private static final List<String> WORDS = List.of("places", "river", "town", "work", "dam", "follow");
    private static final int[] NUMBERS_OF = {1, 14, 5, 6, 2, 4};

    private String text = "";
    private Model land = onePlace();
    private int[] sending = new int[8];
    private int[] lake = new int[3];
    private int[] shares = new int[4];
    private int[][][] images = new int[2][][];
    private long trace;
    /** By all that a MOST hangs on, so that nothing need be forgotten when a KEEP changes. */
    private final Map<String, Integer> mosts = new HashMap<>();

    private static Model onePlace() {
        Model m = new Model();
        m.places = 1;
        return m;
    }

    private static boolean in(long v, long low, long high) {
        return low <= v && v <= high;
    }

    private static boolean season(int kind, int season) {
        return in(kind, 0, 2) && in(season, 0, 3);
    }

    private boolean river(int place) {
        return in(place, 0, land.places - 1) && land.gives[place] != null;
    }

    // ---- the land

    int type(long v, int n) {
        if (!in(n, 1, 8)) {
            return -1;
        }
        if (text.length() + n > 400) {
            return -3;
        }
        StringBuilder bytes = new StringBuilder();
        for (int i = 0; i < n; i++) {
            bytes.insert(0, (char) (v & 255));
            v >>= 8;
        }
        text += bytes;
        return text.length();
    }

    int clear() {
        int had = text.length();
        text = "";
        return had;
    }

    int land() {
        Model told = onePlace();
        List<String> tokens = new ArrayList<>();
        List<Integer> starts = new ArrayList<>();
        Matcher each = Pattern.compile("[a-z]+|[0-9]+|[^ ]", Pattern.DOTALL).matcher(text);
        while (each.find()) {
            tokens.add(each.group());
            starts.add(each.start());
        }
        tokens.add("");
        starts.add(text.length());
        int items = 0;
        int at = 0;
        while (!tokens.get(at).isEmpty()) {
            int word = WORDS.indexOf(tokens.get(at));
            if (!wordCanStand(told, word, items)) {
                return -10 - starts.get(at);
            }
            at++;
            List<Integer> numbers = new ArrayList<>();
            while (numbers.size() < NUMBERS_OF[word]) {
                if (!tokens.get(at).matches("[0-9]|[1-9][0-9]")) {
                    return -10 - starts.get(at);
                }
                numbers.add(Integer.parseInt(tokens.get(at)));
                if (!lastCanStand(told, word, numbers)) {
                    return -10 - starts.get(at);
                }
                at++;
            }
            if (!tokens.get(at).equals(";")) {
                return -10 - starts.get(at);
            }
            at++;
            items++;
            put(told, word, numbers.stream().mapToInt(v -> v).toArray());
        }
        land = told;
        text = "";
        sending = new int[8];
        shares = new int[4];
        images = new int[2][][];
        mosts.clear();
        return items;
    }

    private static boolean wordCanStand(Model told, int word, int items) {
        switch (word) {
            case -1: return false;
            case 0: return items == 0;
            case 2: return items > 0 && told.towns < 4;
            case 3: return items > 0 && told.works < 8;
            case 4: return items > 0 && told.damHolds == 0;
            default: return items > 0;
        }
    }

    /** Whether the last of these NUMBERS may be what it is behind those ahead of it. */
    private static boolean lastCanStand(Model told, int word, List<Integer> numbers) {
        int last = numbers.size() - 1;
        int v = numbers.get(last);
        switch (word) {
            case 0:
                return in(v, 1, 8);
            case 1:
                return last == 0 ? v < told.places && told.gives[v] == null : v <= 30;
            case 2:
                if (last == 0) {
                    return v < told.places && Arrays.stream(told.town, 0, told.towns).noneMatch(t -> t[0] == v);
                }
                return last == 2 || (last == 4 ? v <= numbers.get(2) : v <= 9);
            case 3:
                if (last < 2) {
                    return v < told.places && numbers.indexOf(v) == last;
                }
                return in(v, new int[] {1, 0, 0, 1}[last - 2], new int[] {30, 20, 99, 5}[last - 2]);
            case 4:
                return last == 0 ? v < told.places : in(v, 1, 9);
            default:
                int sum = numbers.stream().skip(1).mapToInt(n -> n).sum();
                return last == 0 ? v <= 2 : v <= 10 && (last < 3 || sum == 10);
        }
    }

    private static void put(Model told, int word, int[] numbers) {
        switch (word) {
            case 0:
                told.places = numbers[0];
                break;
            case 1:
                told.keep[numbers[0]] = numbers[1];
                told.gives[numbers[0]] = Arrays.copyOfRange(numbers, 2, 14);
                break;
            case 2:
                told.town[told.towns++] = numbers;
                break;
            case 3:
                told.work[told.works++] = numbers;
                break;
            case 4:
                told.damPlace = numbers[0];
                told.damHolds = numbers[1];
                break;
            default:
                told.follow[numbers[0]] = Arrays.copyOfRange(numbers, 1, 4);
                break;
        }
    }

    int gives(int place, int kind, int season) {
        if (!in(place, 0, land.places - 1) || !season(kind, season)) {
            return -1;
        }
        return land.gives[place] == null ? 0 : land.gives[place][kind * 4 + season];
    }

    int keep(int place, int v) {
        if (!river(place) || !in(v, 0, 30)) {
            return -1;
        }
        int was = land.keep[place];
        land.keep[place] = v;
        return was;
    }

    int town(int t, int what) {
        return in(t, 0, land.towns - 1) && in(what, 0, 4) ? land.town[t][what] : -1;
    }

    int work(int w, int what) {
        return in(w, 0, land.works - 1) && in(what, 0, 5) ? land.work[w][what] : -1;
    }

    // ---- seasons

    private int mostOf(int[] supply, int dug, int towns, int broader) {
        int works = dug & (1 << land.works) - 1;
        String key = Arrays.toString(supply) + works + " " + towns + " " + broader;
        Integer known = mosts.get(key);
        if (known == null) {
            known = land.most(supply, works, towns, broader);
            mosts.put(key, known);
        }
        return known;
    }

    int most(int kind, int season, int dug) {
        return season(kind, season) ? mostOf(land.supply(kind, season), dug, 15, -1) : -1;
    }

    int price(int kind, int season, int dug, int place) {
        if (!season(kind, season) || !in(place, 0, land.places - 1)) {
            return -1;
        }
        int[] more = land.supply(kind, season);
        more[place]++;
        return mostOf(more, dug, 15, -1) - most(kind, season, dug);
    }

    int edge(int kind, int season, int dug, int work) {
        if (!season(kind, season) || !in(work, 0, land.works - 1) || (dug & 1 << work) == 0) {
            return -1;
        }
        return mostOf(land.supply(kind, season), dug, 15, work) - most(kind, season, dug);
    }

    int delta(int kind, int season, int dug, int place) {
        if (!season(kind, season) || !river(place)) {
            return -1;
        }
        int plain = most(kind, season, dug);
        land.keep[place]++;
        int less = most(kind, season, dug);
        land.keep[place]--;
        return plain - less;
    }

    int send(int work, int v) {
        if (!in(work, 0, land.works - 1) || !in(v, 0, 30)) {
            return -1;
        }
        int was = sending[work];
        sending[work] = v;
        return was;
    }

    int judge(int kind, int season, int what) {
        if (!season(kind, season) || !in(what, 0, 2)) {
            return -1000000;
        }
        int[] supply = land.supply(kind, season);
        if (what == 2) {
            return land.brings(supply, sending);
        }
        for (int w = 0; w < land.works; w++) {
            if (sending[w] > land.work[w][2]) {
                return what == 0 ? 1 : w;
            }
        }
        for (int place = 0; place < land.places; place++) {
            if (land.stays(supply, sending, place) < 0) {
                return what == 0 ? 2 : place;
            }
        }
        return -9;
    }

    // ---- years

    int year(int kind, int dug) {
        if (!in(kind, 0, 2)) {
            return -1;
        }
        return most(kind, 0, dug) + most(kind, 1, dug) + most(kind, 2, dug) + most(kind, 3, dug);
    }

    int best(int coins, int what) {
        if (!in(coins, 0, 999) || !in(what, 0, 1)) {
            return -1;
        }
        int[] best = {0, year(0, 0) + year(1, 0) + year(2, 0)};
        for (int set = 1; set < 1 << land.works; set++) {
            int cost = 0;
            for (int w = 0; w < land.works; w++) {
                cost += (set & 1 << w) == 0 ? 0 : land.work[w][4];
            }
            int sum = year(0, set) + year(1, set) + year(2, set);
            if (cost <= coins && sum > best[1]) {
                best = new int[] {set, sum};
            }
        }
        return best[what];
    }

    int order(int set, int n, int what) {
        if (!in(n, 1, 20) || !in(what, 0, 1)) {
            return -1;
        }
        int works = set & (1 << land.works) - 1;
        if (Integer.bitCount(works) > 5) {
            return -2;
        }
        int[] best = {-1, 0};
        tryOrders(works, new ArrayList<>(), n, best);
        return best[what];
    }

    private void tryOrders(int left, List<Integer> row, int n, int[] best) {
        for (int w = 0; w < 8; w++) {
            if ((left & 1 << w) != 0) {
                row.add(w);
                tryOrders(left & ~(1 << w), row, n, best);
                row.remove(row.size() - 1);
            }
        }
        if (left == 0) {
            int sum = sumOfOrder(row, n);
            int told = 0;
            for (int w : row) {
                told = told * 8 + w;
            }
            if (sum > best[0] || sum == best[0] && told < best[1]) {
                best[0] = sum;
                best[1] = told;
            }
        }
    }

    /** YEAR by YEAR, with one who digs. */
    private int sumOfOrder(List<Integer> row, int n) {
        int sum = 0;
        int done = 0;
        int next = 0;
        int dugFor = 0;
        for (int y = 0; y < n; y++) {
            sum += year(1, done);
            dugFor++;
            if (next < row.size() && dugFor == land.work[row.get(next)][5]) {
                done |= 1 << row.get(next);
                next++;
                dugFor = 0;
            }
        }
        return sum;
    }

    long mean(int kind, int n, int dug) {
        return in(kind, 0, 2) && in(n, 1, 6) ? meanOf(kind, n, dug, 0, 1) : -1;
    }

    /** All rows of YEARS, one by one: what a row brings, as often as it comes. */
    private long meanOf(int kind, int left, int dug, long brought, long often) {
        long sum = brought + year(kind, dug);
        if (left == 1) {
            return often * sum;
        }
        long all = 0;
        for (int next = 0; next < 3; next++) {
            all += meanOf(next, left - 1, dug, sum, often * land.follow[kind][next]);
        }
        return all;
    }

    int dam(int row, int n, int dug, int what) {
        if (!in(n, 1, 5) || !in(what, 0, 1) || !in(row, 0, Math.round(Math.pow(3, n)) - 1)) {
            return -1;
        }
        if (land.damHolds == 0) {
            return -2;
        }
        StringBuilder kinds = new StringBuilder(Integer.toString(row, 3));
        while (kinds.length() < n) {
            kinds.insert(0, '0');
        }
        return damFrom(kinds.toString(), 0, 0, dug, new HashMap<>())[what];
    }

    /** From a SEASON on: the greatest sum, and the least that is kept in that SEASON for it. */
    private int[] damFrom(String kinds, int at, int held, int dug, Map<Integer, int[]> known) {
        if (at == kinds.length() * 4) {
            return new int[] {0, 0};
        }
        if (!known.containsKey(at * 10 + held)) {
            int[] supply = land.supply(kinds.charAt(at / 4) - '0', at % 4);
            int there = supply[land.damPlace] + held;
            int[] best = {-1, 0};
            for (int kept = Math.min(there, land.damHolds); kept >= 0; kept--) {
                supply[land.damPlace] = there - kept;
                int sum = mostOf(supply, dug, 15, -1) + damFrom(kinds, at + 1, kept, dug, known)[0];
                if (sum >= best[0]) {
                    best = new int[] {sum, kept};
                }
            }
            known.put(at * 10 + held, best);
        }
        return known.get(at * 10 + held);
    }

    // ---- the lake, towns

    int lake(int what, int v) {
        if (!in(what, 0, 2) || !in(v, 0, what == 2 ? 99 : 999)) {
            return -1;
        }
        int was = lake[what];
        lake[what] = v;
        return was;
    }

    int level(int n, int u) {
        if (!in(n, 1, 40) || !in(u, 0, 99)) {
            return -1;
        }
        int before = n == 1 ? lake[0] : level(n - 1, u);
        return Math.max(before + u - lake[2], 0);
    }

    int hold(int l, int n) {
        if (!in(l, 0, 999) || !in(n, 1, 40)) {
            return -1;
        }
        for (int u = 0; u < 100; u++) {
            // A LEVEL goes up each SEASON, or down each: so the first and the last tell of all.
            if (Math.min(level(1, u), level(n, u)) >= l) {
                return u;
            }
        }
        return -9;
    }

    int salty() {
        return lake[0] == 0 ? -9 : Math.floorDiv(lake[1] * 1000, lake[0]);
    }

    int alone(int kind, int set) {
        if (!in(kind, 0, 2) || !in(set, 0, (1 << land.towns) - 1)) {
            return -1;
        }
        int sum = 0;
        for (int season = 0; season < 4; season++) {
            sum += mostOf(land.supply(kind, season), -1, set, -1);
        }
        return sum;
    }

    int share(int t, int v) {
        if (!in(t, 0, land.towns - 1) || !in(v, 0, 9999)) {
            return -1;
        }
        int was = shares[t];
        shares[t] = v;
        return was;
    }

    private int sharesOf(int set) {
        int sum = 0;
        for (int t = 0; t < 4; t++) {
            sum += (set & 1 << t) == 0 ? 0 : shares[t];
        }
        return sum;
    }

    int treaty(int kind, int what) {
        if (!in(kind, 0, 2) || !in(what, 0, 2) || land.towns == 0) {
            return -1000000;
        }
        int all = (1 << land.towns) - 1;
        int[] worst = {Integer.MIN_VALUE, 0, 0};
        for (int set = all; set >= 1; set--) {
            int complaint = alone(kind, set) - sharesOf(set);
            if (complaint >= worst[0]) {
                worst = new int[] {complaint, set, 0};
            }
        }
        worst[2] = worst[0] <= 0 && sharesOf(all) <= alone(kind, all) ? 1 : 0;
        return worst[what];
    }

    // ---- kinds, images

    int value(int kind, int work) {
        if (!in(kind, 0, 5) || !in(work, 0, land.works - 1)) {
            return -1000000;
        }
        int[] above = {-1, 0, 0, 1, 2, 0};
        trace += Math.round(Math.pow(10, kind));
        int up = above[kind] < 0 ? 0 : value(above[kind], work);
        int[] facts = land.work[work];
        int[] values = {facts[2], up * facts[5], up - facts[3], up + facts[4], up + up, up + land.towns};
        return values[kind];
    }

    int image(int image) {
        if (!in(image, 0, 1)) {
            return -1;
        }
        images[image] = new int[][] {sending.clone(), lake.clone(), shares.clone()};
        return lake[0];
    }

    int back(int image) {
        if (!in(image, 0, 1)) {
            return -1;
        }
        if (images[image] == null) {
            return -2;
        }
        sending = images[image][0].clone();
        lake = images[image][1].clone();
        shares = images[image][2].clone();
        return lake[0];
    }

    int count(int what) {
        int[] counts = {land.places, land.towns, land.works, land.damHolds, text.length()};
        return in(what, 0, 4) ? counts[what] : -1;
    }

    long trace() {
        return trace;
    }
}
