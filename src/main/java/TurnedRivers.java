import java.util.Arrays;

/** A land whose rivers are turned round: what its water brings, by seasons, years, works and towns. */
public final class TurnedRivers {
    public static final int BAD = -1, STATE = -2, FULL = -3, NONE = -9;
    public static final int NO = -1000000;

    private static final int MAX_PLACES = 8, MAX_TOWNS = 4, MAX_WORKS = 8, MAX_TEXT = 400;
    private static final int YEAR_KINDS = 3, SEASONS = 4, SEASONS_OF_KINDS = YEAR_KINDS * SEASONS;
    private static final int MEAN_YEAR = 1;
    private static final int MAX_UNITS = 30, MAX_DAM = 9;
    private static final int IMAGES = 2;
    /** Where a WORK may be told, and none is meant. */
    private static final int NO_WORK = -1;

    private static final int TOWN_PLACE = 0, TOWN_W = 1, TOWN_V = 2, TOWN_X = 3, TOWN_Y = 4, TOWN_FACTS = 5;
    private static final int FROM = 0, TO = 1, BREADTH = 2, TOLL = 3, COST = 4, DIG = 5, WORK_FACTS = 6;
    private static final int LEVEL = 0, SALT = 1, SUN = 2, LAKE_FACTS = 3;

    private final byte[] text = new byte[MAX_TEXT];
    private int textLength;
    private final Reader reader = new Reader();
    private Land told = new Land();
    /** A text is read into this one, so that a FAULT leaves the other as it was. */
    private Land draft = new Land();
    private final Flow flow = new Flow();
    private final Years years = new Years();
    private final Digging digging = new Digging();
    private final DamPlan damPlan = new DamPlan();
    private final Standing now = new Standing();
    private final Standing[] images = new Standing[IMAGES];
    private final boolean[] imageKept = new boolean[IMAGES];
    private long traced;

    public TurnedRivers() {
        for (int i = 0; i < IMAGES; i++) {
            images[i] = new Standing();
        }
    }

    // ---- the land

    public int type(long v, int n) {
        if (!isWithin(n, 1, 8)) {
            return BAD;
        }
        if (textLength + n > MAX_TEXT) {
            return FULL;
        }
        for (int i = n - 1; i >= 0; i--) {
            text[textLength] = (byte) (v >>> (8 * i));
            textLength++;
        }
        return textLength;
    }

    public int clear() {
        int had = textLength;
        textLength = 0;
        return had;
    }

    public int land() {
        int items = reader.read(text, textLength, draft);
        if (items < 0) {
            return items;
        }
        Land old = told;
        told = draft;
        draft = old;
        textLength = 0;
        years.forget();
        now.forgetLand();
        for (int i = 0; i < IMAGES; i++) {
            imageKept[i] = false;
        }
        return items;
    }

    public int gives(int place, int kind, int season) {
        return isPlace(place) && isSeason(kind, season) ? told.waterOf(place, kind, season) : BAD;
    }

    public int keep(int place, int v) {
        if (!isRiver(place) || !isWithin(v, 0, MAX_UNITS)) {
            return BAD;
        }
        int was = told.keeps[place];
        told.keeps[place] = v;
        years.forget();
        return was;
    }

    public int town(int t, int what) {
        return isTown(t) && isWithin(what, 0, TOWN_FACTS - 1) ? told.townFact(t, what) : BAD;
    }

    public int work(int w, int what) {
        return isWork(w) && isWithin(what, 0, WORK_FACTS - 1) ? told.workFact(w, what) : BAD;
    }

    // ---- seasons

    public int most(int kind, int season, int dug) {
        return isSeason(kind, season) ? plainMost(kind, season, dug) : BAD;
    }

    public int price(int kind, int season, int dug, int place) {
        if (!isSeason(kind, season) || !isPlace(place)) {
            return BAD;
        }
        int plain = plainMost(kind, season, dug);
        flow.supply(told, kind, season);
        flow.supplies[place]++;
        return flow.greatest(told, dug, told.allTowns(), NO_WORK) - plain;
    }

    public int edge(int kind, int season, int dug, int work) {
        if (!isSeason(kind, season) || !isWork(work) || (dug >> work & 1) == 0) {
            return BAD;
        }
        int plain = plainMost(kind, season, dug);
        flow.supply(told, kind, season);
        return flow.greatest(told, dug, told.allTowns(), work) - plain;
    }

    public int delta(int kind, int season, int dug, int place) {
        if (!isSeason(kind, season) || !isRiver(place)) {
            return BAD;
        }
        int plain = plainMost(kind, season, dug);
        flow.supply(told, kind, season);
        flow.supplies[place] = Math.max(0, flow.supplies[place] - 1);
        return plain - flow.greatest(told, dug, told.allTowns(), NO_WORK);
    }

    public int send(int work, int v) {
        if (!isWork(work) || !isWithin(v, 0, MAX_UNITS)) {
            return BAD;
        }
        int was = now.sending[work];
        now.sending[work] = v;
        return was;
    }

    public int judge(int kind, int season, int what) {
        if (!isSeason(kind, season) || !isWithin(what, 0, 2)) {
            return NO;
        }
        if (what == 2) {
            return brings(kind, season);
        }
        int work = tooFullWork();
        if (work != NONE) {
            return what == 0 ? 1 : work;
        }
        int place = tooEmptyPlace(kind, season);
        if (place != NONE) {
            return what == 0 ? 2 : place;
        }
        return NONE;
    }

    // ---- years

    public int year(int kind, int dug) {
        return isYearKind(kind) ? years.greatest(told, flow, kind, dug & told.allWorks()) : BAD;
    }

    public int best(int coins, int what) {
        if (!isWithin(coins, 0, 999) || !isWithin(what, 0, 1)) {
            return BAD;
        }
        int bestSet = 0;
        int bestSum = -1;
        for (int set = 0; set <= told.allWorks(); set++) {
            if (told.costOf(set) <= coins) {
                int sum = mostOfThreeYears(set);
                if (sum > bestSum) {
                    bestSum = sum;
                    bestSet = set;
                }
            }
        }
        return what == 0 ? bestSet : bestSum;
    }

    public int order(int set, int n, int what) {
        if (!isWithin(n, 1, 20) || !isWithin(what, 0, 1)) {
            return BAD;
        }
        int works = set & told.allWorks();
        if (Integer.bitCount(works) > 5) {
            return STATE;
        }
        for (int done = 0; done <= works; done++) {
            if ((done & ~works) == 0) {
                digging.brings[done] = years.greatest(told, flow, MEAN_YEAR, done);
            }
        }
        int sum = digging.greatest(told, works, n);
        return what == 0 ? sum : digging.leastOrder(told, works, n);
    }

    public long mean(int kind, int n, int dug) {
        if (!isYearKind(kind) || !isWithin(n, 1, 6)) {
            return BAD;
        }
        return years.meanTimesTens(told, flow, kind, n, dug & told.allWorks());
    }

    public int dam(int row, int n, int dug, int what) {
        if (!isWithin(n, 1, 5) || !isWithin(what, 0, 1) || !isWithin(row, 0, rowsOf(n) - 1)) {
            return BAD;
        }
        if (told.damHolds == 0) {
            return STATE;
        }
        int sum = damPlan.greatest(told, flow, row, n, dug);
        return what == 0 ? sum : damPlan.keptFirst;
    }

    // ---- the lake, towns

    public int lake(int what, int v) {
        if (!isWithin(what, 0, LAKE_FACTS - 1) || !isWithin(v, 0, what == SUN ? 99 : 999)) {
            return BAD;
        }
        int was = now.lakeFacts[what];
        now.lakeFacts[what] = v;
        return was;
    }

    public int level(int n, int u) {
        if (!isWithin(n, 1, 40) || !isWithin(u, 0, 99)) {
            return BAD;
        }
        int level = now.lakeFacts[LEVEL];
        for (int i = 0; i < n; i++) {
            level = levelBehind(level, u);
        }
        return level;
    }

    public int hold(int l, int n) {
        if (!isWithin(l, 0, 999) || !isWithin(n, 1, 40)) {
            return BAD;
        }
        for (int u = 0; u <= 99; u++) {
            if (holds(l, n, u)) {
                return u;
            }
        }
        return NONE;
    }

    public int salty() {
        int level = now.lakeFacts[LEVEL];
        return level > 0 ? now.lakeFacts[SALT] * 1000 / level : NONE;
    }

    public int alone(int kind, int set) {
        return isYearKind(kind) && isWithin(set, 0, told.allTowns()) ? mostOfTowns(kind, set) : BAD;
    }

    public int share(int t, int v) {
        if (!isTown(t) || !isWithin(v, 0, 9999)) {
            return BAD;
        }
        int was = now.shares[t];
        now.shares[t] = v;
        return was;
    }

    public int treaty(int kind, int what) {
        if (!isYearKind(kind) || !isWithin(what, 0, 2) || told.towns == 0) {
            return NO;
        }
        int worst = complaint(kind, 1);
        int worstSet = 1;
        int last = worst;
        for (int set = 2; set <= told.allTowns(); set++) {
            last = complaint(kind, set);
            if (last > worst) {
                worst = last;
                worstSet = set;
            }
        }
        if (what == 2) {
            // The last set is all TOWNS: its COMPLAINT is below 0 when SHARES are more than there is.
            return worst <= 0 && last >= 0 ? 1 : 0;
        }
        return what == 0 ? worst : worstSet;
    }

    // ---- kinds, images

    public int value(int kind, int work) {
        if (!isWork(work)) {
            return NO;
        }
        switch (kind) {
            case 0: return asWork(work);
            case 1: return asCanal(work);
            case 2: return asLift(work);
            case 3: return asTunnel(work);
            case 4: return asFall(work);
            case 5: return asSaving(work);
            default: return NO;
        }
    }

    public int image(int image) {
        if (!isWithin(image, 0, IMAGES - 1)) {
            return BAD;
        }
        images[image].become(now);
        imageKept[image] = true;
        return now.lakeFacts[LEVEL];
    }

    public int back(int image) {
        if (!isWithin(image, 0, IMAGES - 1)) {
            return BAD;
        }
        if (!imageKept[image]) {
            return STATE;
        }
        now.become(images[image]);
        return now.lakeFacts[LEVEL];
    }

    public int count(int what) {
        switch (what) {
            case 0: return told.places;
            case 1: return told.towns;
            case 2: return told.works;
            case 3: return told.damHolds;
            case 4: return textLength;
            default: return BAD;
        }
    }

    public long trace() {
        return traced;
    }

    // ---- what may be asked

    private static boolean isWithin(int v, int low, int high) {
        return v >= low && v <= high;
    }

    private static boolean isYearKind(int kind) {
        return isWithin(kind, 0, YEAR_KINDS - 1);
    }

    private static boolean isSeason(int kind, int season) {
        return isYearKind(kind) && isWithin(season, 0, SEASONS - 1);
    }

    private boolean isPlace(int place) {
        return isWithin(place, 0, told.places - 1);
    }

    private boolean isRiver(int place) {
        return isPlace(place) && told.hasRiver(place);
    }

    private boolean isTown(int t) {
        return isWithin(t, 0, told.towns - 1);
    }

    private boolean isWork(int w) {
        return isWithin(w, 0, told.works - 1);
    }

    private static int rowsOf(int n) {
        int rows = 1;
        for (int i = 0; i < n; i++) {
            rows *= YEAR_KINDS;
        }
        return rows;
    }

    // ---- helpers of the seasons and years

    private int plainMost(int kind, int season, int dug) {
        flow.supply(told, kind, season);
        return flow.greatest(told, dug, told.allTowns(), NO_WORK);
    }

    private int mostOfThreeYears(int set) {
        int sum = 0;
        for (int kind = 0; kind < YEAR_KINDS; kind++) {
            sum += years.greatest(told, flow, kind, set);
        }
        return sum;
    }

    private int mostOfTowns(int kind, int set) {
        int sum = 0;
        for (int season = 0; season < SEASONS; season++) {
            flow.supply(told, kind, season);
            sum += flow.greatest(told, told.allWorks(), set, NO_WORK);
        }
        return sum;
    }

    // ---- helpers of THE SENDING

    private int tooFullWork() {
        for (int w = 0; w < told.works; w++) {
            if (now.sending[w] > told.workFact(w, BREADTH)) {
                return w;
            }
        }
        return NONE;
    }

    private int tooEmptyPlace(int kind, int season) {
        for (int place = 0; place < told.places; place++) {
            if (staysAt(place, kind, season) < 0) {
                return place;
            }
        }
        return NONE;
    }

    /** Below 0 where more go than the RIVER may send and WORKS bring. */
    private int staysAt(int place, int kind, int season) {
        int stays = told.spareOf(place, kind, season);
        for (int w = 0; w < told.works; w++) {
            if (told.workFact(w, TO) == place) {
                stays += now.sending[w];
            }
            if (told.workFact(w, FROM) == place) {
                stays -= now.sending[w];
            }
        }
        return stays;
    }

    private int brings(int kind, int season) {
        int sum = 0;
        for (int t = 0; t < told.towns; t++) {
            int stays = Math.max(0, staysAt(told.townFact(t, TOWN_PLACE), kind, season));
            int first = Math.min(stays, told.townFact(t, TOWN_W));
            int second = Math.min(stays - first, told.townFact(t, TOWN_X));
            sum += first * told.townFact(t, TOWN_V) + second * told.townFact(t, TOWN_Y);
        }
        for (int w = 0; w < told.works; w++) {
            sum -= now.sending[w] * told.workFact(w, TOLL);
        }
        return sum;
    }

    // ---- helpers of the lake and the towns

    private int levelBehind(int level, int u) {
        return Math.max(0, level + u - now.lakeFacts[SUN]);
    }

    private boolean holds(int least, int n, int u) {
        int level = now.lakeFacts[LEVEL];
        for (int i = 0; i < n; i++) {
            level = levelBehind(level, u);
            if (level < least) {
                return false;
            }
        }
        return true;
    }

    private int complaint(int kind, int set) {
        int sum = mostOfTowns(kind, set);
        for (int t = 0; t < told.towns; t++) {
            if ((set >> t & 1) != 0) {
                sum -= now.shares[t];
            }
        }
        return sum;
    }

    // ---- KINDS of WORKS, each by what the one above it does

    private int asWork(int w) {
        traced += 1;
        return told.workFact(w, BREADTH);
    }

    private int asCanal(int w) {
        traced += 10;
        return asWork(w) * told.workFact(w, DIG);
    }

    private int asLift(int w) {
        traced += 100;
        return asWork(w) - told.workFact(w, TOLL);
    }

    private int asTunnel(int w) {
        traced += 1000;
        return asCanal(w) + told.workFact(w, COST);
    }

    private int asFall(int w) {
        traced += 10000;
        return 2 * asLift(w);
    }

    private int asSaving(int w) {
        traced += 100000;
        return asWork(w) + told.towns;
    }

    /** What a text tells. KEEP alone changes without a text. */
    private static final class Land {
        static final int NO_RIVER = -1;

        int places;
        int towns;
        int works;
        int damPlace;
        int damHolds;
        final int[] keeps = new int[MAX_PLACES];
        final int[] waters = new int[MAX_PLACES * SEASONS_OF_KINDS];
        final int[] townFacts = new int[MAX_TOWNS * TOWN_FACTS];
        final int[] workFacts = new int[MAX_WORKS * WORK_FACTS];
        final int[] follows = new int[YEAR_KINDS * YEAR_KINDS];

        Land() {
            empty();
        }

        void empty() {
            places = 1;
            towns = 0;
            works = 0;
            damPlace = 0;
            damHolds = 0;
            Arrays.fill(keeps, NO_RIVER);
            Arrays.fill(waters, 0);
            for (int kind = 0; kind < YEAR_KINDS; kind++) {
                follows[kind * YEAR_KINDS] = 0;
                follows[kind * YEAR_KINDS + 1] = 10;
                follows[kind * YEAR_KINDS + 2] = 0;
            }
        }

        boolean hasRiver(int place) {
            return keeps[place] != NO_RIVER;
        }

        boolean hasTown(int place) {
            for (int t = 0; t < towns; t++) {
                if (townFact(t, TOWN_PLACE) == place) {
                    return true;
                }
            }
            return false;
        }

        int waterOf(int place, int kind, int season) {
            return waters[place * SEASONS_OF_KINDS + kind * SEASONS + season];
        }

        /** What a RIVER gives beyond its KEEP. */
        int spareOf(int place, int kind, int season) {
            return hasRiver(place) ? Math.max(0, waterOf(place, kind, season) - keeps[place]) : 0;
        }

        int townFact(int t, int what) {
            return townFacts[t * TOWN_FACTS + what];
        }

        int workFact(int w, int what) {
            return workFacts[w * WORK_FACTS + what];
        }

        int allTowns() {
            return (1 << towns) - 1;
        }

        int allWorks() {
            return (1 << works) - 1;
        }

        int costOf(int set) {
            return sumOf(set, COST);
        }

        int yearsToDig(int set) {
            return sumOf(set, DIG);
        }

        private int sumOf(int set, int what) {
            int sum = 0;
            for (int w = 0; w < works; w++) {
                if ((set >> w & 1) != 0) {
                    sum += workFact(w, what);
                }
            }
            return sum;
        }
    }

    /** Cuts a text into TOKENS, up to the first that is none; what ends the text is a TOKEN, too. */
    private static final class Tokens {
        static final int END = 0, WRONG = 1, SEMICOLON = 2, NUMBER = 3, WORD = 4;
        static final int PLACES = 0, RIVER = 1, TOWN = 2, WORK = 3, DAM = 4, FOLLOW = 5, UNKNOWN = -1;

        final int[] kinds = new int[MAX_TEXT + 1];
        /** Where the first byte of each TOKEN is. */
        final int[] starts = new int[MAX_TEXT + 1];
        /** Of a NUMBER: what it is; of a WORD: which one. */
        final int[] meanings = new int[MAX_TEXT + 1];
        private int at;

        void scan(byte[] text, int length) {
            at = 0;
            for (int token = 0; token <= length; token++) {
                while (at < length && text[at] == ' ') {
                    at++;
                }
                starts[token] = at;
                kinds[token] = WRONG;
                if (at >= length) {
                    kinds[token] = END;
                } else if (text[at] == ';') {
                    kinds[token] = SEMICOLON;
                    at++;
                } else if (isDigit(text[at])) {
                    takeNumber(text, length, token);
                } else if (isLetter(text[at])) {
                    takeWord(text, length, token);
                }
                if (kinds[token] == END || kinds[token] == WRONG) {
                    return;
                }
            }
        }

        private void takeNumber(byte[] text, int length, int token) {
            boolean zeroAhead = text[at] == '0';
            int start = at;
            int number = 0;
            while (at < length && isDigit(text[at])) {
                // 100 stands for all that are too great, so that a long row of digits never wraps round.
                number = Math.min(100, number * 10 + text[at] - '0');
                at++;
            }
            if (number <= 99 && !(zeroAhead && at - start > 1)) {
                kinds[token] = NUMBER;
                meanings[token] = number;
            }
        }

        private void takeWord(byte[] text, int length, int token) {
            int start = at;
            while (at < length && isLetter(text[at])) {
                at++;
            }
            int word = knownWord(text, start, at - start);
            if (word != UNKNOWN) {
                kinds[token] = WORD;
                meanings[token] = word;
            }
        }

        private static int knownWord(byte[] text, int start, int length) {
            if (spells(text, start, length, "places")) {
                return PLACES;
            } else if (spells(text, start, length, "river")) {
                return RIVER;
            } else if (spells(text, start, length, "town")) {
                return TOWN;
            } else if (spells(text, start, length, "work")) {
                return WORK;
            } else if (spells(text, start, length, "dam")) {
                return DAM;
            } else if (spells(text, start, length, "follow")) {
                return FOLLOW;
            }
            return UNKNOWN;
        }

        private static boolean spells(byte[] text, int start, int length, String word) {
            if (length != word.length()) {
                return false;
            }
            for (int i = 0; i < length; i++) {
                if (text[start + i] != word.charAt(i)) {
                    return false;
                }
            }
            return true;
        }

        private static boolean isDigit(int b) {
            return b >= '0' && b <= '9';
        }

        private static boolean isLetter(int b) {
            return b >= 'a' && b <= 'z';
        }
    }

    /** Reads TOKENS into a LAND, one ahead of another, up to the first that can't stand where it is. */
    private static final class Reader {
        private final Tokens tokens = new Tokens();
        private int at;

        /** How many ITEMS were read, or -10 less FAULT. */
        int read(byte[] text, int length, Land into) {
            tokens.scan(text, length);
            into.empty();
            at = 0;
            for (int items = 0; items <= length; items++) {
                // Even where none was told: a text without a TOKEN has none that can't stand there.
                if (tokens.kinds[at] == Tokens.END) {
                    return items;
                }
                if (!readItem(into, items == 0)) {
                    return -10 - tokens.starts[at];
                }
            }
            return -10 - tokens.starts[at];
        }

        private boolean readItem(Land into, boolean first) {
            if (tokens.kinds[at] != Tokens.WORD || first != (tokens.meanings[at] == Tokens.PLACES)) {
                return false;
            }
            if (!readFacts(into)) {
                return false;
            }
            step();
            if (tokens.kinds[at] != Tokens.SEMICOLON) {
                return false;
            }
            step();
            return true;
        }

        private boolean readFacts(Land into) {
            switch (tokens.meanings[at]) {
                case Tokens.PLACES: return readPlaces(into);
                case Tokens.RIVER: return readRiver(into);
                case Tokens.TOWN: return readTown(into);
                case Tokens.WORK: return readWork(into);
                case Tokens.DAM: return readDam(into);
                case Tokens.FOLLOW: return readFollow(into);
                default: return false;
            }
        }

        private boolean readPlaces(Land into) {
            if (!readNumber(1, MAX_PLACES)) {
                return false;
            }
            into.places = number();
            return true;
        }

        private boolean readRiver(Land into) {
            if (!readNumber(0, into.places - 1) || into.hasRiver(number())) {
                return false;
            }
            int place = number();
            if (!readInto(into.keeps, place, 0, MAX_UNITS)) {
                return false;
            }
            for (int i = 0; i < SEASONS_OF_KINDS; i++) {
                if (!readInto(into.waters, place * SEASONS_OF_KINDS + i, 0, MAX_UNITS)) {
                    return false;
                }
            }
            return true;
        }

        private boolean readTown(Land into) {
            if (into.towns >= MAX_TOWNS || !readNumber(0, into.places - 1) || into.hasTown(number())) {
                return false;
            }
            int base = into.towns * TOWN_FACTS;
            into.townFacts[base + TOWN_PLACE] = number();
            if (!readInto(into.townFacts, base + TOWN_W, 0, 9)
                    || !readInto(into.townFacts, base + TOWN_V, 0, 99)
                    || !readInto(into.townFacts, base + TOWN_X, 0, 9)
                    || !readInto(into.townFacts, base + TOWN_Y, 0, into.townFacts[base + TOWN_V])) {
                return false;
            }
            into.towns++;
            return true;
        }

        private boolean readWork(Land into) {
            if (into.works >= MAX_WORKS) {
                return false;
            }
            int base = into.works * WORK_FACTS;
            if (!readInto(into.workFacts, base + FROM, 0, into.places - 1)
                    || !readInto(into.workFacts, base + TO, 0, into.places - 1)
                    || into.workFacts[base + FROM] == into.workFacts[base + TO]
                    || !readInto(into.workFacts, base + BREADTH, 1, MAX_UNITS)
                    || !readInto(into.workFacts, base + TOLL, 0, 20)
                    || !readInto(into.workFacts, base + COST, 0, 99)
                    || !readInto(into.workFacts, base + DIG, 1, 5)) {
                return false;
            }
            into.works++;
            return true;
        }

        private boolean readDam(Land into) {
            if (into.damHolds > 0 || !readNumber(0, into.places - 1)) {
                return false;
            }
            into.damPlace = number();
            if (!readNumber(1, MAX_DAM)) {
                return false;
            }
            into.damHolds = number();
            return true;
        }

        private boolean readFollow(Land into) {
            if (!readNumber(0, YEAR_KINDS - 1)) {
                return false;
            }
            int base = number() * YEAR_KINDS;
            int sum = 0;
            for (int kind = 0; kind < YEAR_KINDS; kind++) {
                if (!readInto(into.follows, base + kind, 0, 10)) {
                    return false;
                }
                sum += number();
            }
            return sum == 10;
        }

        private boolean readInto(int[] facts, int index, int low, int high) {
            if (!readNumber(low, high)) {
                return false;
            }
            facts[index] = number();
            return true;
        }

        private boolean readNumber(int low, int high) {
            step();
            int read = tokens.meanings[at];
            return tokens.kinds[at] == Tokens.NUMBER && read >= low && read <= high;
        }

        private int number() {
            return tokens.meanings[at];
        }

        private void step() {
            if (at < MAX_TEXT) {
                at++;
            }
        }
    }

    /**
     * MOST of one SEASON. Units go along the path that brings the most, again and again, until none brings more
     * than nothing; a later path may take back what an earlier one sent through a WORK.
     */
    private static final class Flow {
        static final int FAR = 1000000;
        static final int UNITS_WANTED = MAX_TOWNS * 18;
        static final int FIRST_HERE = -1;

        /** Units at each PLACE ahead of all sending; the asker may change them behind supply(). */
        final int[] supplies = new int[MAX_PLACES];

        private final int[] left = new int[MAX_PLACES];
        private int places;

        private int arcs;
        private final int[] from = new int[MAX_WORKS];
        private final int[] to = new int[MAX_WORKS];
        private final int[] toll = new int[MAX_WORKS];
        private final int[] room = new int[MAX_WORKS];
        private final int[] used = new int[MAX_WORKS];

        private int towns;
        private final int[] townPlace = new int[MAX_TOWNS];
        private final int[] wants = new int[MAX_TOWNS * 2];
        private final int[] worths = new int[MAX_TOWNS * 2];

        private final int[] cost = new int[MAX_PLACES];
        /** The arc by which the cheapest path comes, twice its number; one more if it goes against the arc. */
        private final int[] cameBy = new int[MAX_PLACES];

        void supply(Land land, int kind, int season) {
            for (int place = 0; place < land.places; place++) {
                supplies[place] = land.spareOf(place, kind, season);
            }
        }

        int greatest(Land land, int dug, int townSet, int broader) {
            places = land.places;
            System.arraycopy(supplies, 0, left, 0, places);
            openWorks(land, dug, broader);
            openTowns(land, townSet);
            int sum = 0;
            // Each path brings one unit at least.
            for (int i = 0; i < UNITS_WANTED; i++) {
                findPaths();
                int want = bestWant();
                if (want < 0) {
                    return sum;
                }
                int gain = gainOf(want);
                sum += gain * sendFor(want);
            }
            return sum;
        }

        private void openWorks(Land land, int dug, int broader) {
            arcs = 0;
            for (int w = 0; w < land.works; w++) {
                if ((dug >> w & 1) != 0) {
                    from[arcs] = land.workFact(w, FROM);
                    to[arcs] = land.workFact(w, TO);
                    toll[arcs] = land.workFact(w, TOLL);
                    room[arcs] = land.workFact(w, BREADTH) + (w == broader ? 1 : 0);
                    used[arcs] = 0;
                    arcs++;
                }
            }
        }

        private void openTowns(Land land, int townSet) {
            towns = 0;
            for (int t = 0; t < land.towns; t++) {
                if ((townSet >> t & 1) != 0) {
                    townPlace[towns] = land.townFact(t, TOWN_PLACE);
                    wants[towns * 2] = land.townFact(t, TOWN_W);
                    worths[towns * 2] = land.townFact(t, TOWN_V);
                    wants[towns * 2 + 1] = land.townFact(t, TOWN_X);
                    worths[towns * 2 + 1] = land.townFact(t, TOWN_Y);
                    towns++;
                }
            }
        }

        /** The cheapest ways from any PLACE that has units left. */
        private void findPaths() {
            for (int place = 0; place < places; place++) {
                cost[place] = left[place] > 0 ? 0 : FAR;
                cameBy[place] = FIRST_HERE;
            }
            boolean changed = true;
            for (int i = 0; changed && i < places; i++) {
                changed = false;
                for (int arc = 0; arc < arcs; arc++) {
                    changed |= cheapen(arc);
                }
            }
        }

        private boolean cheapen(int arc) {
            int a = from[arc];
            int b = to[arc];
            if (room[arc] > 0 && cost[a] < FAR && cost[a] + toll[arc] < cost[b]) {
                cost[b] = cost[a] + toll[arc];
                cameBy[b] = arc * 2;
                return true;
            }
            if (used[arc] > 0 && cost[b] < FAR && cost[b] - toll[arc] < cost[a]) {
                cost[a] = cost[b] - toll[arc];
                cameBy[a] = arc * 2 + 1;
                return true;
            }
            return false;
        }

        /** The want that brings the most, or -1 if none brings more than nothing. */
        private int bestWant() {
            int best = -1;
            int bestGain = 0;
            for (int want = 0; want < towns * 2; want++) {
                if (wants[want] > 0 && gainOf(want) > bestGain) {
                    best = want;
                    bestGain = gainOf(want);
                }
            }
            return best;
        }

        private int gainOf(int want) {
            return worths[want] - cost[townPlace[want / 2]];
        }

        /** Sends as many units as the path to this want can take: how many. */
        private int sendFor(int want) {
            int units = wants[want];
            int place = townPlace[want / 2];
            for (int i = 0; i < places && cameBy[place] != FIRST_HERE; i++) {
                int arc = cameBy[place] / 2;
                boolean against = cameBy[place] % 2 == 1;
                units = Math.min(units, against ? used[arc] : room[arc]);
                place = against ? to[arc] : from[arc];
            }
            units = Math.min(units, left[place]);
            left[place] -= units;
            wants[want] -= units;
            moveAlong(townPlace[want / 2], units);
            return units;
        }

        private void moveAlong(int end, int units) {
            int place = end;
            for (int i = 0; i < places && cameBy[place] != FIRST_HERE; i++) {
                int arc = cameBy[place] / 2;
                boolean against = cameBy[place] % 2 == 1;
                int sent = against ? -units : units;
                room[arc] -= sent;
                used[arc] += sent;
                place = against ? to[arc] : from[arc];
            }
        }
    }

    /** MOST of YEARS, kept until the LAND or a KEEP changes, as best() and order() ask for the same ones again. */
    private static final class Years {
        static final int UNKNOWN = -1;

        private final int[] known = new int[YEAR_KINDS << MAX_WORKS];
        private final long[] behind = new long[YEAR_KINDS];
        private final long[] longer = new long[YEAR_KINDS];

        Years() {
            forget();
        }

        void forget() {
            Arrays.fill(known, UNKNOWN);
        }

        int greatest(Land land, Flow flow, int kind, int dug) {
            int index = (kind << MAX_WORKS) + dug;
            if (known[index] == UNKNOWN) {
                int sum = 0;
                for (int season = 0; season < SEASONS; season++) {
                    flow.supply(land, kind, season);
                    sum += flow.greatest(land, dug, land.allTowns(), NO_WORK);
                }
                known[index] = sum;
            }
            return known[index];
        }

        /** The mean over n YEARS times 10 to the n - 1: from the last YEAR back, for each KIND it may be of. */
        long meanTimesTens(Land land, Flow flow, int first, int n, int dug) {
            Arrays.fill(behind, 0L);
            long tens = 1;
            for (int i = 0; i < n; i++) {
                for (int kind = 0; kind < YEAR_KINDS; kind++) {
                    longer[kind] = greatest(land, flow, kind, dug) * tens + followed(land, kind);
                }
                System.arraycopy(longer, 0, behind, 0, YEAR_KINDS);
                tens *= 10;
            }
            return behind[first];
        }

        private long followed(Land land, int kind) {
            long sum = 0;
            for (int next = 0; next < YEAR_KINDS; next++) {
                sum += land.follows[kind * YEAR_KINDS + next] * behind[next];
            }
            return sum;
        }
    }

    /**
     * In which order WORKS are dug. How many YEARS have gone depends on the set that is done alone, not on its order:
     * so the greatest sum of what is still to come is found for each set, the whole one first.
     */
    private static final class Digging {
        /** What a YEAR brings by a set of WORKS; the asker puts it there. */
        final int[] brings = new int[1 << MAX_WORKS];
        private final int[] toCome = new int[1 << MAX_WORKS];

        int greatest(Land land, int works, int n) {
            for (int done = works; done >= 0; done--) {
                if ((done & ~works) == 0) {
                    toCome[done] = greatestBehind(land, works, n, done);
                }
            }
            return toCome[0];
        }

        int leastOrder(Land land, int works, int n) {
            int order = 0;
            int done = 0;
            for (int i = 0; i < MAX_WORKS && done != works; i++) {
                int next = leastNext(land, works, n, done);
                order = order * 8 + next;
                done |= 1 << next;
            }
            return order;
        }

        private int greatestBehind(Land land, int works, int n, int done) {
            if (done == works) {
                return Math.max(0, n - land.yearsToDig(done)) * brings[done];
            }
            int best = 0;
            for (int w = 0; w < MAX_WORKS; w++) {
                if (((works & ~done) >> w & 1) != 0) {
                    best = Math.max(best, sumIfNext(land, n, done, w));
                }
            }
            return best;
        }

        private int leastNext(Land land, int works, int n, int done) {
            int last = 0;
            for (int w = 0; w < MAX_WORKS; w++) {
                if (((works & ~done) >> w & 1) != 0) {
                    last = w;
                    if (sumIfNext(land, n, done, w) == toCome[done]) {
                        return w;
                    }
                }
            }
            return last;
        }

        private int sumIfNext(Land land, int n, int done, int w) {
            int with = done | 1 << w;
            int begun = Math.min(n, land.yearsToDig(done));
            int ended = Math.min(n, land.yearsToDig(with));
            return (ended - begun) * brings[done] + toCome[with];
        }
    }

    /** THE DAM, from the last SEASON back: for all that it may hold, the greatest sum from there on. */
    private static final class DamPlan {
        static final int UNKNOWN = -1;
        static final int WATERS = MAX_UNITS + MAX_DAM + 1;

        /** What is kept in the SEASON that was planned last, by a DAM that is empty ahead of it. */
        int keptFirst;

        private final int[] mosts = new int[SEASONS_OF_KINDS * WATERS];
        private final int[] later = new int[MAX_DAM + 1];
        private final int[] sums = new int[MAX_DAM + 1];

        int greatest(Land land, Flow flow, int row, int n, int dug) {
            Arrays.fill(mosts, UNKNOWN);
            Arrays.fill(later, 0);
            int rest = row;
            for (int i = 0; i < n; i++) {
                int kind = rest % YEAR_KINDS;
                rest /= YEAR_KINDS;
                for (int season = SEASONS - 1; season >= 0; season--) {
                    planSeason(land, flow, kind, season, dug);
                }
            }
            return later[0];
        }

        private void planSeason(Land land, Flow flow, int kind, int season, int dug) {
            int given = land.spareOf(land.damPlace, kind, season);
            for (int held = land.damHolds; held >= 0; held--) {
                int there = given + held;
                sums[held] = UNKNOWN;
                for (int kept = 0; kept <= land.damHolds && kept <= there; kept++) {
                    int sum = mostWith(land, flow, kind, season, dug, there - kept) + later[kept];
                    if (sum > sums[held]) {
                        sums[held] = sum;
                        keptFirst = kept;
                    }
                }
            }
            System.arraycopy(sums, 0, later, 0, sums.length);
        }

        private int mostWith(Land land, Flow flow, int kind, int season, int dug, int water) {
            int index = (kind * SEASONS + season) * WATERS + water;
            if (mosts[index] == UNKNOWN) {
                flow.supply(land, kind, season);
                flow.supplies[land.damPlace] = water;
                mosts[index] = flow.greatest(land, dug, land.allTowns(), NO_WORK);
            }
            return mosts[index];
        }
    }

    /** What IMAGES keep: THE SENDING, THE LAKE, SHARES. */
    private static final class Standing {
        final int[] sending = new int[MAX_WORKS];
        final int[] lakeFacts = new int[LAKE_FACTS];
        final int[] shares = new int[MAX_TOWNS];

        void become(Standing other) {
            System.arraycopy(other.sending, 0, sending, 0, MAX_WORKS);
            System.arraycopy(other.lakeFacts, 0, lakeFacts, 0, LAKE_FACTS);
            System.arraycopy(other.shares, 0, shares, 0, MAX_TOWNS);
        }

        void forgetLand() {
            Arrays.fill(sending, 0);
            Arrays.fill(shares, 0);
        }
    }
}
