/** A post whose letters are sent on each day by whoever at the place minds most. README.md tells how to use it. */
public final class MindPost {

    public static final int NONE = -1;

    private static final int NO_SUCH = -2;
    private static final int BAD_NUMBER = -3;
    private static final int TOO_MANY = -4;
    private static final int NOT_NOW = -5;
    private static final int MISSING = -6;
    private static final int NO_NUMBER = -7;
    private static final int CAN_NOT = -11;
    private static final int CAN_NO_MORE = -12;
    private static final int NO_SUCH_MINDING = -99000002;
    private static final int TEXT_FAULT = -30;

    private static final int LONGEST_TEXT = 900;
    private static final int FEWEST_PLACES = 2;
    private static final int MOST_PLACES = 6;
    private static final int MOST_PEOPLE = 6;
    private static final int MOST_LETTERS = 6;
    private static final int MOST_CARE = 9;
    private static final int MOST_MOOD = 9;
    private static final int MOST_UNDONE = 10;
    private static final int MOST_NUMBERS = 40;
    private static final int MOST_SEEN = 12;
    private static final int MOST_DAYS = 99;
    private static final int MOST_LYING_DAYS = 99999;
    private static final int MOST_PROBE_DAYS = 9;
    private static final int MOST_CHANCE_DAYS = 15;
    private static final int MOST_YEAR_TIMES = 40;
    private static final int MOST_SORT = 3;
    private static final int TRAYS = 4;
    private static final int IMAGES = 2;

    private static final int POSTING = 0;
    private static final int MOVING = 1;
    private static final int AROUSING = 2;
    private static final int HAVING_MOOD = 3;

    // The kinds of TOKENS: words in the order of WORDS, signs in the order of SIGNS, then the others.
    private static final String WORDS =
        "places person at home family mood away cares for minds sends day who of kin own if then else end not or and ";
    private static final String SIGNS = ";:+-*()[]=<>";
    private static final int W_PLACES = 0;
    private static final int W_PERSON = 1;
    private static final int W_AT = 2;
    private static final int W_HOME = 3;
    private static final int W_FAMILY = 4;
    private static final int W_MOOD = 5;
    private static final int W_AWAY = 6;
    private static final int W_CARES = 7;
    private static final int W_FOR = 8;
    private static final int W_MINDS = 9;
    private static final int W_SENDS = 10;
    private static final int W_DAY = 11;
    private static final int W_WHO = 12;
    private static final int W_OF = 13;
    private static final int W_KIN = 14;
    private static final int W_OWN = 15;
    private static final int W_IF = 16;
    private static final int W_THEN = 17;
    private static final int W_ELSE = 18;
    private static final int W_END = 19;
    private static final int W_NOT = 20;
    private static final int W_OR = 21;
    private static final int W_AND = 22;
    private static final int SEMICOLON = 23;
    private static final int COLON = 24;
    private static final int PLUS = 25;
    private static final int MINUS = 26;
    private static final int TIMES = 27;
    private static final int OPEN = 28;
    private static final int CLOSE = 29;
    private static final int OPEN_TRUTH = 30;
    private static final int CLOSE_TRUTH = 31;
    private static final int SAME = 32;
    private static final int LESS = 33;
    private static final int MORE = 34;
    private static final int NUMBER = 35;
    private static final int TEXT_END = 36;
    private static final int STRANGE = 37;
    private static final int BROKEN = 38;

    /** Codes of TOKENS below this are numbers; of others, their kind and this. */
    private static final int KINDS = 1000;

    private static final int MINDS_LAW = 0;
    private static final int SENDS_LAW = 1;

    private final byte[] tape = new byte[LONGEST_TEXT];
    private int onTape = 0;
    private final Told told = new Told();
    private final Now now = new Now();
    private final Now before = new Now();
    private final Now trial = new Now();
    private final Reader reader = new Reader(tape);
    private final Past past = new Past();
    private final Ways ways = new Ways(told, now);
    private final Deeds deeds = new Deeds(told, ways);
    private final Seeker seeker = new Seeker(told, ways);
    private final Chances chances = new Chances(told, ways);
    private final Tray[] trays = new Tray[TRAYS];
    private final Told[] imageTold = new Told[IMAGES];
    private final Now[] imageNow = new Now[IMAGES];
    private final int[] tally = new int[MOST_PLACES];

    public MindPost() {
        for (int t = 0; t < TRAYS; t++) {
            trays[t] = new Tray();
        }
    }

    // ---- the post

    public int feed(int a, int b, int c, int d, int e) {
        if (onTape + 20 > LONGEST_TEXT) {
            return NOT_NOW;
        }
        feedOne(a);
        feedOne(b);
        feedOne(c);
        feedOne(d);
        feedOne(e);
        return onTape;
    }

    private void feedOne(int four) {
        for (int shift = 24; shift >= 0; shift -= 8) {
            if (onTape < LONGEST_TEXT) {
                tape[onTape] = (byte) (four >>> shift);
                onTape++;
            }
        }
    }

    public int post(int n) {
        if (n < 0 || n > onTape) {
            return BAD_NUMBER;
        }
        onTape = 0;
        reader.readText(n);
        if (reader.fault != 0) {
            return TEXT_FAULT - reader.fault;
        }
        told.copy(reader.told);
        now.copy(reader.now);
        past.size = 0;
        return told.lines;
    }

    public int fault(int what) {
        switch (what) {
            case 0:
                return reader.fault;
            case 1:
                return reader.faultPlace;
            default:
                return NONE;
        }
    }

    public int person(int p, int what) {
        if (!isPerson(p)) {
            return NO_SUCH;
        }
        switch (what) {
            case 0:
                return now.place[p];
            case 1:
                return told.home[p];
            case 2:
                return told.family[p];
            case 3:
                return now.mood[p];
            case 4:
                return told.away[p];
            case 5:
                return now.lettersTo(p);
            default:
                return NO_SUCH;
        }
    }

    public int cares(int p, int q) {
        if (!isPerson(p) || !isPerson(q)) {
            return NO_SUCH;
        }
        return now.care[p * MOST_PEOPLE + q];
    }

    public int minds(int p, int q) {
        if (!areTwo(p, q)) {
            return NO_SUCH_MINDING;
        }
        ways.aim(now, q);
        return ways.mind[p];
    }

    public int would(int p, int q) {
        if (!areTwo(p, q)) {
            return NO_SUCH;
        }
        ways.aim(now, q);
        return ways.goal[p * MOST_PLACES + now.place[p]];
    }

    public int letter(int l, int what) {
        if (l < 0 || l >= now.letters) {
            return NO_SUCH;
        }
        boolean given = now.given[l] != NONE;
        switch (what) {
            case 0:
                return now.lie[l];
            case 1:
                return now.to[l];
            case 2:
                return given ? 1 : 0;
            case 3:
                return (given ? now.given[l] : now.day) - now.posted[l];
            case 4:
                return given ? NONE : senderOf(l);
            default:
                return NO_SUCH;
        }
    }

    private int senderOf(int l) {
        ways.aimAt(now, now.to[l], now.lie[l]);
        return ways.bestAt(now.lie[l], NONE);
    }

    // ---- deeds

    public int mail(int p, int place) {
        return doOne(POSTING, p, place);
    }

    public int move(int p, int place) {
        return doOne(MOVING, p, place);
    }

    public int arouse(int p, int q) {
        return doOne(AROUSING, p, q);
    }

    public int mood(int p, int n) {
        return doOne(HAVING_MOOD, p, n);
    }

    private int doOne(int kind, int a, int b) {
        before.copy(now);
        int got = deeds.act(now, kind, a, b);
        if (got >= 0) {
            past.keep(before);
        }
        return got;
    }

    public int days(int n) {
        if (n < 1 || n > MOST_DAYS) {
            return BAD_NUMBER;
        }
        past.keep(now);
        return deeds.pass(now, n);
    }

    public int undo(int n) {
        if (n < 1 || n > past.size) {
            return BAD_NUMBER;
        }
        past.bringBack(n, now);
        return past.size;
    }

    public int judge(int tray, int what) {
        if (!isTray(tray) || what < 0 || what > 3) {
            return NO_SUCH;
        }
        if (!trays[tray].there) {
            return MISSING;
        }
        trial.copy(now);
        int done = deeds.actAll(trial, trays[tray]);
        switch (what) {
            case 0:
                return deeds.why == 0 ? NONE : done;
            case 1:
                return deeds.why;
            case 2:
                return trial.givenBits();
            default:
                return trial.lyingBits();
        }
    }

    public int perform(int tray) {
        if (!isTray(tray)) {
            return NO_SUCH;
        }
        if (!trays[tray].there) {
            return MISSING;
        }
        before.copy(now);
        return keptIfAny(deeds.actAll(now, trays[tray]));
    }

    public int year(int seed, int times) {
        if (times < 1 || times > MOST_YEAR_TIMES) {
            return BAD_NUMBER;
        }
        before.copy(now);
        return keptIfAny(deeds.actByDraws(now, seed, times));
    }

    // A call that did nothing must not push out the eldest one that can be undone.
    private int keptIfAny(int done) {
        if (done > 0) {
            past.keep(before);
        }
        return done;
    }

    // ---- ways

    public int lies(int p, int place, int n) {
        if (!isWay(p, place)) {
            return NO_SUCH;
        }
        if (n < 0 || n > MOST_LYING_DAYS) {
            return BAD_NUMBER;
        }
        ways.aim(now, p);
        return ways.placeIn(place, n);
    }

    public int comes(int p, int place) {
        if (!isWay(p, place)) {
            return NO_SUCH;
        }
        ways.aim(now, p);
        return ways.daysTillGiven(place);
    }

    public int ends(int p, int place, int what) {
        if (!isWay(p, place) || what < 0 || what > 3) {
            return NO_SUCH;
        }
        ways.aim(now, p);
        int ring = ways.ringBits(place);
        int length = Integer.bitCount(ring);
        switch (what) {
            case 0:
                return ring == 1 << ways.target ? 0 : length == 1 ? 1 : 2;
            case 1:
                return length;
            case 2:
                return ways.daysTillIn(place, ring);
            default:
                return ways.placeIn(place, ways.daysTillIn(place, ring));
        }
    }

    public int hands(int p, int place) {
        if (!isWay(p, place)) {
            return NO_SUCH;
        }
        ways.aim(now, p);
        return ways.senderBits(place);
    }

    public int sources(int p) {
        if (!isPerson(p)) {
            return NO_SUCH;
        }
        ways.aim(now, p);
        return ways.sourceBits();
    }

    public int soonest(int p) {
        if (!isPerson(p)) {
            return NO_SUCH;
        }
        ways.aim(now, p);
        int best = NONE;
        int least = 0;
        for (int place = 0; place < told.places; place++) {
            int days = ways.daysTillGiven(place);
            if (days > 0 && (best == NONE || days < least)) {
                best = place;
                least = days;
            }
        }
        return best;
    }

    public int rings(int p) {
        if (!isPerson(p)) {
            return NO_SUCH;
        }
        ways.aim(now, p);
        int rings = 0;
        for (int place = 0; place < told.places; place++) {
            int ring = ways.ringBits(place);
            // Each RING is told by the lowest of its PLACES alone.
            if (Integer.bitCount(ring) > 1 && (ring & -ring) == 1 << place) {
                rings++;
            }
        }
        return rings;
    }

    public int offices(int p) {
        if (!isPerson(p)) {
            return NO_SUCH;
        }
        ways.aim(now, p);
        int bits = 0;
        for (int place = 0; place < told.places; place++) {
            if (place != ways.target && ways.nextOf(place) == place) {
                bits |= 1 << place;
            }
        }
        return bits;
    }

    public int needed(int p, int place) {
        if (!isWay(p, place)) {
            return NO_SUCH;
        }
        ways.aim(now, p);
        if (ways.daysTillGiven(place) == NONE) {
            return 0;
        }
        int bits = 0;
        for (int q = 0; q < told.people; q++) {
            ways.barred = q;
            if (q != p && ways.daysTillGiven(place) == NONE) {
                bits |= 1 << q;
            }
        }
        return bits;
    }

    // ---- so that it comes

    public int moves(int p, int place, int what) {
        if (!isWay(p, place) || !isCountOrPerson(what)) {
            return NO_SUCH;
        }
        ways.aim(now, p);
        int fewest = seeker.fewestMoves(place);
        if (fewest == NONE || what == 0) {
            return fewest;
        }
        return ways.where[what - 10];
    }

    public int feeling(int p, int place, int what) {
        if (!isWay(p, place) || !isCountOrPerson(what)) {
            return NO_SUCH;
        }
        ways.aim(now, p);
        int least = seeker.leastFeeling(place);
        if (least == NONE || what == 0) {
            return least;
        }
        return seeker.aroused[what - 10];
    }

    public int found(int p) {
        return isPerson(p) ? bestToBe(p, 1) : NO_SUCH;
    }

    public int hides(int p) {
        return isPerson(p) ? bestToBe(p, -1) : NO_SUCH;
    }

    // Where it would be so that it COMES from most PLACES (sign 1) or fewest (sign -1).
    private int bestToBe(int p, int sign) {
        ways.aim(now, p);
        int best = 0;
        int most = -MOST_PLACES - 1;
        for (int place = 0; place < told.places; place++) {
            ways.target = place;
            int from = sign * Integer.bitCount(ways.sourceBits());
            if (from > most) {
                best = place;
                most = from;
            }
        }
        return best;
    }

    // ---- by where letters went

    public int seen(int tray, int p, int place) {
        int code = sightCode(tray, isWay(p, place));
        if (code != 0) {
            return code;
        }
        ways.aim(now, p);
        return ways.targetBits(place, trays[tray]);
    }

    public int probe(int tray, int p, int place, int n) {
        int code = sightCode(tray, isWay(p, place));
        if (code != 0) {
            return code;
        }
        if (n < 1 || n > MOST_PROBE_DAYS) {
            return BAD_NUMBER;
        }
        ways.aim(now, p);
        int targets = ways.targetBits(place, trays[tray]);
        if (targets == 0) {
            return NONE;
        }
        int best = 0;
        int least = MOST_PLACES + 1;
        for (int from = 0; from < told.places; from++) {
            int most = mostAlike(from, n, targets);
            if (most < least) {
                best = from;
                least = most;
            }
        }
        return best;
    }

    // The greatest number of the PERSON's PLACES by which a LETTER lies at one and the same PLACE.
    private int mostAlike(int from, int n, int targets) {
        clearTally();
        int most = 0;
        for (int target = 0; target < told.places; target++) {
            if ((targets >> target & 1) == 1) {
                ways.target = target;
                int place = ways.placeIn(from, n);
                tally[place]++;
                most = Math.max(most, tally[place]);
            }
        }
        return most;
    }

    public int heart(int tray, int p, int place, int q) {
        int code = sightCode(tray, areTwo(p, q) && isPlace(place));
        if (code != 0) {
            return code;
        }
        ways.aim(now, p);
        return ways.careBits(q, place, trays[tray]);
    }

    public int suspects(int tray, int p, int place) {
        int code = sightCode(tray, isWay(p, place));
        if (code != 0) {
            return code;
        }
        ways.aim(now, p);
        if (ways.goesAs(place, trays[tray])) {
            return 0;
        }
        int bits = 0;
        for (int q = 0; q < told.people; q++) {
            if (q != p && ways.careBits(q, place, trays[tray]) != 0) {
                bits |= 1 << q;
            }
        }
        return bits;
    }

    private int sightCode(int tray, boolean allThere) {
        if (!isTray(tray) || !allThere) {
            return NO_SUCH;
        }
        Tray t = trays[tray];
        if (!t.there) {
            return MISSING;
        }
        if (t.size < 1 || t.size > MOST_SEEN) {
            return TOO_MANY;
        }
        for (int i = 0; i < t.size; i++) {
            if (t.number[i] < NONE || t.number[i] >= told.places) {
                return BAD_NUMBER;
            }
        }
        return 0;
    }

    // ---- two letters, chances

    public int meet(int p, int place, int q, int other) {
        if (!isWay(p, place) || !isWay(q, other)) {
            return NO_SUCH;
        }
        int[] next = tally;
        ways.aim(now, p);
        for (int from = 0; from < told.places; from++) {
            next[from] = ways.nextOf(from);
        }
        ways.aim(now, q);
        int one = place;
        int two = other;
        for (int day = 0; day <= MOST_DAYS; day++) {
            if (one == two) {
                return day;
            }
            one = next[one];
            two = ways.nextOf(two);
        }
        return NONE;
    }

    public int hub() {
        clearTally();
        for (int p = 0; p < told.people; p++) {
            ways.aim(now, p);
            int sources = ways.sourceBits();
            for (int place = 0; place < told.places; place++) {
                tally[place] += sources >> place & 1;
            }
        }
        int best = 0;
        for (int place = 1; place < told.places; place++) {
            if (tally[place] > tally[best]) {
                best = place;
            }
        }
        return best;
    }

    public long chance(int p, int place, int n, int what) {
        if (!isWay(p, place) || what < 0 || what > 1) {
            return NO_SUCH;
        }
        if (!isChanceDays(n)) {
            return BAD_NUMBER;
        }
        ways.aim(now, p);
        chances.begin();
        chances.addDays(n);
        return chances.lowest(place, what);
    }

    public int likely(int p, int place, int m) {
        if (!isWay(p, place)) {
            return NO_SUCH;
        }
        if (m < 0 || m > 100) {
            return BAD_NUMBER;
        }
        ways.aim(now, p);
        chances.begin();
        for (int day = 0; day <= MOST_CHANCE_DAYS; day++) {
            if (chances.given[place] * 100 >= chances.whole * m) {
                return day;
            }
            chances.addDays(1);
        }
        return NONE;
    }

    public int surest(int p, int n) {
        if (!isPerson(p)) {
            return NO_SUCH;
        }
        if (!isChanceDays(n)) {
            return BAD_NUMBER;
        }
        ways.aim(now, p);
        chances.begin();
        chances.addDays(n);
        int best = NONE;
        long most = 0;
        for (int place = 0; place < told.places; place++) {
            if (place != ways.target && chances.given[place] > most) {
                best = place;
                most = chances.given[place];
            }
        }
        return best;
    }

    // ---- trays, images

    public int numbers(int tray, int sort, int n) {
        if (!isTray(tray) || sort < 0 || sort > MOST_SORT) {
            return NO_SUCH;
        }
        if (n < 0 || n > MOST_NUMBERS) {
            return BAD_NUMBER;
        }
        trays[tray].begin(sort, n);
        return 0;
    }

    public long write(int tray, int i, long v) {
        if (!isTray(tray)) {
            return NO_SUCH;
        }
        Tray t = trays[tray];
        if (!t.there) {
            return MISSING;
        }
        if (i < 0 || i >= t.size) {
            return NO_NUMBER;
        }
        return t.put(i, v);
    }

    public int lists(int tray, int p, int place) {
        if (!isTray(tray) || !isWay(p, place)) {
            return NO_SUCH;
        }
        Tray t = trays[tray];
        if (!t.there) {
            return MISSING;
        }
        ways.aim(now, p);
        int at = place;
        for (int i = 0; i < t.size; i++) {
            t.put(i, at);
            at = ways.nextOf(at);
        }
        return t.size;
    }

    public int image(int i) {
        if (i < 0 || i >= IMAGES) {
            return NO_SUCH;
        }
        if (imageTold[i] == null || imageNow[i] == null) {
            imageTold[i] = new Told();
            imageNow[i] = new Now();
        }
        imageTold[i].copy(told);
        imageNow[i].copy(now);
        return 0;
    }

    public int restore(int i) {
        if (i < 0 || i >= IMAGES) {
            return NO_SUCH;
        }
        if (imageTold[i] == null || imageNow[i] == null) {
            return NOT_NOW;
        }
        told.copy(imageTold[i]);
        now.copy(imageNow[i]);
        past.size = 0;
        return 0;
    }

    public int count(int what) {
        switch (what) {
            case 0:
                return told.places;
            case 1:
                return told.people;
            case 2:
                return now.letters;
            case 3:
                return now.givenBits();
            case 4:
                return now.day;
            case 5:
                return now.allCares();
            case 6:
                return past.size;
            case 7:
                return onTape;
            case 8:
                return told.lines;
            default:
                return NONE;
        }
    }

    // ---- what the arguments may be

    private boolean isPerson(int p) {
        return p >= 0 && p < told.people;
    }

    private boolean isPlace(int place) {
        return place >= 0 && place < told.places;
    }

    private boolean isWay(int p, int place) {
        return isPerson(p) && isPlace(place);
    }

    private boolean areTwo(int p, int q) {
        return isPerson(p) && isPerson(q) && p != q;
    }

    private boolean isCountOrPerson(int what) {
        return what == 0 || what >= 10 && isPerson(what - 10);
    }

    private boolean isChanceDays(int n) {
        return n >= 0 && n <= MOST_CHANCE_DAYS;
    }

    private boolean isTray(int tray) {
        return tray >= 0 && tray < TRAYS;
    }

    private void clearTally() {
        for (int i = 0; i < MOST_PLACES; i++) {
            tally[i] = 0;
        }
    }

    /** What THE POST's text tells and no deed changes. */
    static final class Told {
        int places = FEWEST_PLACES;
        int people = 0;
        int lines = 0;
        final int[] home = new int[MOST_PEOPLE];
        final int[] family = new int[MOST_PEOPLE];
        final int[] away = new int[MOST_PEOPLE];
        final Laws laws = new Laws();

        void clear() {
            places = FEWEST_PLACES;
            people = 0;
            lines = 0;
            for (int p = 0; p < MOST_PEOPLE; p++) {
                home[p] = 0;
                family[p] = 0;
                away[p] = 0;
            }
            laws.clear();
        }

        void copy(Told other) {
            places = other.places;
            people = other.people;
            lines = other.lines;
            System.arraycopy(other.home, 0, home, 0, MOST_PEOPLE);
            System.arraycopy(other.family, 0, family, 0, MOST_PEOPLE);
            System.arraycopy(other.away, 0, away, 0, MOST_PEOPLE);
            laws.copy(other.laws);
        }
    }

    /** Both laws in one row, each operator behind what it is of: no more codes than the text has TOKENS. */
    static final class Laws {
        private static final int DEEPEST = 64;
        private static final int BOUND = 1000000;

        private final int[] code = new int[LONGEST_TEXT];
        private int size = 0;
        private final int[] from = new int[2];
        private final int[] till = new int[2];
        private final int[] stack = new int[DEEPEST];
        private int top = 0;
        /** What the words of a law mean, by their kinds. */
        final int[] meaning = new int[W_OWN + 1];

        void clear() {
            size = 0;
            for (int law = 0; law < 2; law++) {
                from[law] = 0;
                till[law] = 0;
            }
        }

        void copy(Laws other) {
            size = other.size;
            System.arraycopy(other.code, 0, code, 0, LONGEST_TEXT);
            System.arraycopy(other.from, 0, from, 0, 2);
            System.arraycopy(other.till, 0, till, 0, 2);
        }

        void begin(int law) {
            from[law] = size;
        }

        void end(int law) {
            till[law] = size;
        }

        void add(int next) {
            if (size < LONGEST_TEXT) {
                code[size] = next;
                size++;
            }
        }

        boolean has(int law) {
            return till[law] > from[law];
        }

        int tell(int law) {
            top = 0;
            for (int i = from[law]; i < till[law]; i++) {
                int kind = code[i] - KINDS;
                if (kind < 0) {
                    push(code[i]);
                } else if (kind <= W_OWN) {
                    push(meaning[kind]);
                } else if (kind == W_NOT) {
                    push(1 - pop());
                } else if (kind == W_IF) {
                    choose();
                } else {
                    int right = pop();
                    int left = pop();
                    push(join(kind, left, right));
                }
            }
            return pop();
        }

        private void push(int value) {
            if (top < DEEPEST) {
                stack[top] = value;
                top++;
            }
        }

        private int pop() {
            if (top <= 0) {
                return 0;
            }
            top--;
            return stack[top];
        }

        // Both SUMS are reckoned ahead: that changes nothing, so that a law needs no jumps.
        private void choose() {
            int otherwise = pop();
            int then = pop();
            push(pop() == 1 ? then : otherwise);
        }

        private static int join(int kind, int left, int right) {
            switch (kind) {
                case PLUS:
                    return kept((long) left + right);
                case MINUS:
                    return kept((long) left - right);
                case TIMES:
                    return kept((long) left * right);
                case SAME:
                    return left == right ? 1 : 0;
                case LESS:
                    return left < right ? 1 : 0;
                case MORE:
                    return left > right ? 1 : 0;
                case W_AND:
                    return left & right;
                default:
                    return left | right;
            }
        }

        private static int kept(long value) {
            return value > BOUND ? BOUND : value < -BOUND ? -BOUND : (int) value;
        }
    }

    /** What deeds change, and what is brought back when they are undone. */
    static final class Now {
        final int[] place = new int[MOST_PEOPLE];
        final int[] mood = new int[MOST_PEOPLE];
        /** How much one CARES for another one, at one * MOST_PEOPLE + other. */
        final int[] care = new int[MOST_PEOPLE * MOST_PEOPLE];
        int day = 0;
        int letters = 0;
        final int[] to = new int[MOST_LETTERS];
        final int[] lie = new int[MOST_LETTERS];
        final int[] posted = new int[MOST_LETTERS];
        /** The DAY on which it was GIVEN, or NONE. */
        final int[] given = new int[MOST_LETTERS];

        void clear() {
            day = 0;
            letters = 0;
            for (int p = 0; p < MOST_PEOPLE; p++) {
                place[p] = 0;
                mood[p] = 0;
            }
            for (int i = 0; i < MOST_PEOPLE * MOST_PEOPLE; i++) {
                care[i] = 0;
            }
        }

        void copy(Now other) {
            day = other.day;
            letters = other.letters;
            System.arraycopy(other.place, 0, place, 0, MOST_PEOPLE);
            System.arraycopy(other.mood, 0, mood, 0, MOST_PEOPLE);
            System.arraycopy(other.care, 0, care, 0, MOST_PEOPLE * MOST_PEOPLE);
            System.arraycopy(other.to, 0, to, 0, MOST_LETTERS);
            System.arraycopy(other.lie, 0, lie, 0, MOST_LETTERS);
            System.arraycopy(other.posted, 0, posted, 0, MOST_LETTERS);
            System.arraycopy(other.given, 0, given, 0, MOST_LETTERS);
        }

        int lettersTo(int p) {
            int bits = 0;
            for (int l = 0; l < letters; l++) {
                if (to[l] == p) {
                    bits |= 1 << l;
                }
            }
            return bits;
        }

        int givenBits() {
            int bits = 0;
            for (int l = 0; l < letters; l++) {
                if (given[l] != NONE) {
                    bits |= 1 << l;
                }
            }
            return bits;
        }

        int lyingBits() {
            int bits = 0;
            for (int l = 0; l < letters; l++) {
                if (given[l] == NONE) {
                    bits |= 1 << lie[l];
                }
            }
            return bits;
        }

        int allCares() {
            int sum = 0;
            for (int i = 0; i < MOST_PEOPLE * MOST_PEOPLE; i++) {
                sum += care[i];
            }
            return sum;
        }
    }

    /** The TOKENS of a text, till its end or where none begins. */
    static final class Tokens {
        private static final int STARTS = 2048;

        private final byte[] text;
        private int length = 0;
        /** Where each starts times STARTS, and its code. */
        private final int[] row = new int[LONGEST_TEXT];
        private int size = 0;
        private int at = 0;
        /** The one at hand: its kind, where it starts, and, of a number, what it is. */
        int kind = TEXT_END;
        int startsAt = 0;
        int value = NONE;

        Tokens(byte[] text) {
            this.text = text;
        }

        /** The next one comes to hand. */
        void step() {
            boolean more = at < size;
            int code = more ? row[at] % STARTS : KINDS + TEXT_END;
            startsAt = more ? row[at] / STARTS : length;
            kind = code < KINDS ? NUMBER : code - KINDS;
            value = code < KINDS ? code : NONE;
            at += more ? 1 : 0;
        }

        void readAll(int n) {
            length = Math.min(n, text.length);
            size = 0;
            at = 0;
            int next = 0;
            for (int i = 0; i < LONGEST_TEXT; i++) {
                int start = endOf(next, ' ');
                if (start >= length) {
                    return;
                }
                int sort = sortOf(signAt(start));
                next = sort == '?' ? start + 1 : endOf(start, sort);
                row[size] = start * STARTS + codeOf(start, next, sort);
                size++;
            }
        }

        private int signAt(int i) {
            return i >= 0 && i < length ? text[i] & 255 : 0;
        }

        // Signs that go on in one TOKEN, or between two, are of one sort; others stand alone.
        private static int sortOf(int sign) {
            if (sign >= 'a' && sign <= 'z') {
                return 'a';
            }
            if (sign >= '0' && sign <= '9') {
                return '0';
            }
            return sign == 32 || sign == 10 ? ' ' : '?';
        }

        private int endOf(int start, int sort) {
            for (int i = start; i < length; i++) {
                if (sortOf(signAt(i)) != sort) {
                    return i;
                }
            }
            return length;
        }

        private int codeOf(int start, int end, int sort) {
            if (sort == 'a') {
                return KINDS + wordKind(start, end);
            }
            if (sort == '0') {
                return end - start > 3 ? KINDS + BROKEN : numberOf(start, end);
            }
            int sign = SIGNS.indexOf((char) signAt(start));
            return KINDS + (sign < 0 ? BROKEN : SEMICOLON + sign);
        }

        private int numberOf(int start, int end) {
            int value = 0;
            for (int i = start; i < end; i++) {
                value = value * 10 + signAt(i) - '0';
            }
            return value;
        }

        private int wordKind(int start, int end) {
            int word = 0;
            int from = 0;
            for (int i = 0; i < WORDS.length(); i++) {
                if (WORDS.charAt(i) == ' ') {
                    if (i - from == end - start && spells(start, from, i)) {
                        return word;
                    }
                    from = i + 1;
                    word++;
                }
            }
            return STRANGE;
        }

        private boolean spells(int start, int from, int till) {
            for (int i = from; i < till; i++) {
                if (WORDS.charAt(i) != signAt(start + i - from)) {
                    return false;
                }
            }
            return true;
        }
    }

    /** Reads a text, till its end or its first FAULT, into rows of its own. */
    static final class Reader {
        private static final int DEEPEST = 6;

        final Told told = new Told();
        final Now now = new Now();
        int fault = 0;
        int faultPlace = NONE;
        private final Tokens tokens;
        private int law = MINDS_LAW;

        Reader(byte[] text) {
            tokens = new Tokens(text);
        }

        void readText(int length) {
            fault = 0;
            faultPlace = NONE;
            told.clear();
            now.clear();
            tokens.readAll(length);
            tokens.step();
            take(W_PLACES);
            told.places = takeNumber(FEWEST_PLACES, MOST_PLACES);
            take(SEMICOLON);
            told.lines = 1;
            for (int i = 0; i < LONGEST_TEXT && fault == 0 && tokens.kind != TEXT_END; i++) {
                readLine();
                take(SEMICOLON);
                told.lines++;
            }
        }

        private void fail(int why) {
            if (fault == 0) {
                fault = tokens.kind == BROKEN ? 1 : why;
                faultPlace = tokens.startsAt;
            }
        }

        private void take(int wanted) {
            if (tokens.kind != wanted) {
                fail(2);
            }
            if (fault == 0) {
                tokens.step();
            }
        }

        private int takeNumber(int low, int high) {
            int number = tokens.value;
            if (tokens.kind == NUMBER && (number < low || number > high)) {
                fail(3);
            }
            take(NUMBER);
            return fault == 0 ? number : 0;
        }

        private void readLine() {
            switch (tokens.kind) {
                case W_PERSON:
                    readPerson();
                    break;
                case W_CARES:
                    readCares();
                    break;
                case W_MINDS:
                    readLaw(MINDS_LAW);
                    break;
                case W_SENDS:
                    readLaw(SENDS_LAW);
                    break;
                case W_DAY:
                    take(W_DAY);
                    now.day = takeNumber(0, 999);
                    break;
                default:
                    fail(2);
                    break;
            }
        }

        private void readPerson() {
            int p = told.people;
            if (p >= MOST_PEOPLE) {
                fail(4);
                return;
            }
            take(W_PERSON);
            take(W_AT);
            now.place[p] = takeNumber(0, told.places - 1);
            told.home[p] = now.place[p];
            for (int i = 0; i < LONGEST_TEXT && fault == 0 && isFlag(tokens.kind); i++) {
                readFlag(p);
            }
            told.people = p + 1;
        }

        private static boolean isFlag(int kind) {
            return kind == W_HOME || kind == W_FAMILY || kind == W_MOOD || kind == W_AWAY;
        }

        private void readFlag(int p) {
            int flag = tokens.kind;
            take(flag);
            if (flag == W_HOME) {
                told.home[p] = takeNumber(0, told.places - 1);
            } else if (flag == W_FAMILY) {
                told.family[p] = takeNumber(0, 9);
            } else if (flag == W_MOOD) {
                now.mood[p] = takeNumber(0, MOST_MOOD);
            } else {
                told.away[p] = takeNumber(0, 10);
            }
        }

        private void readCares() {
            take(W_CARES);
            int who = takeNumber(0, told.people - 1);
            take(W_FOR);
            if (tokens.value == who && fault == 0) {
                fail(3);
            }
            int of = takeNumber(0, told.people - 1);
            int much = takeNumber(0, MOST_CARE);
            if (fault == 0) {
                now.care[who * MOST_PEOPLE + of] = much;
            }
        }

        private void readLaw(int which) {
            law = which;
            take(tokens.kind);
            take(COLON);
            told.laws.begin(law);
            readSum(0);
            told.laws.end(law);
        }

        private void add(int operator) {
            told.laws.add(KINDS + operator);
        }

        private void readSum(int depth) {
            readTerm(depth);
            for (int i = 0; i < LONGEST_TEXT && fault == 0; i++) {
                int sign = tokens.kind;
                if (sign != PLUS && sign != MINUS) {
                    return;
                }
                take(sign);
                readTerm(depth);
                add(sign);
            }
        }

        private void readTerm(int depth) {
            readAtom(depth);
            for (int i = 0; i < LONGEST_TEXT && fault == 0 && tokens.kind == TIMES; i++) {
                take(TIMES);
                readAtom(depth);
                add(TIMES);
            }
        }

        private void readAtom(int depth) {
            if (fault != 0) {
                return;
            }
            int kind = tokens.kind;
            if (kind == NUMBER) {
                told.laws.add(tokens.value);
                take(NUMBER);
            } else if (isOfLaw(kind)) {
                add(kind);
                take(kind);
            } else if (kind == OPEN && mayNest(depth)) {
                take(OPEN);
                readSum(depth + 1);
                take(CLOSE);
            } else if (kind == W_IF && mayNest(depth)) {
                readIf(depth + 1);
            } else {
                fail(2);
            }
        }

        private void readIf(int depth) {
            take(W_IF);
            readTruth(depth);
            take(W_THEN);
            readSum(depth);
            take(W_ELSE);
            readSum(depth);
            take(W_END);
            add(W_IF);
        }

        private boolean mayNest(int depth) {
            if (depth >= DEEPEST) {
                fail(4);
            }
            return fault == 0;
        }

        private boolean isOfLaw(int kind) {
            switch (kind) {
                case W_WHO:
                case W_OF:
                case W_MOOD:
                case W_KIN:
                    return true;
                case W_CARES:
                    return law == MINDS_LAW;
                case W_AT:
                case W_HOME:
                case W_OWN:
                    return law == SENDS_LAW;
                default:
                    return false;
            }
        }

        private void readTruth(int depth) {
            readBoth(depth);
            for (int i = 0; i < LONGEST_TEXT && fault == 0 && tokens.kind == W_OR; i++) {
                take(W_OR);
                readBoth(depth);
                add(W_OR);
            }
        }

        private void readBoth(int depth) {
            readUnit(depth);
            for (int i = 0; i < LONGEST_TEXT && fault == 0 && tokens.kind == W_AND; i++) {
                take(W_AND);
                readUnit(depth);
                add(W_AND);
            }
        }

        private void readUnit(int depth) {
            if (fault != 0) {
                return;
            }
            if (tokens.kind == W_NOT) {
                if (mayNest(depth)) {
                    take(W_NOT);
                    readUnit(depth + 1);
                    add(W_NOT);
                }
            } else if (tokens.kind == OPEN_TRUTH) {
                if (mayNest(depth)) {
                    take(OPEN_TRUTH);
                    readTruth(depth + 1);
                    take(CLOSE_TRUTH);
                }
            } else {
                readComparison(depth);
            }
        }

        private void readComparison(int depth) {
            readSum(depth);
            int sign = tokens.kind;
            if (sign != SAME && sign != LESS && sign != MORE) {
                fail(2);
            }
            take(sign);
            readSum(depth);
            add(sign);
        }
    }

    /** Where LETTERS to one PERSON go: who could send them, how much each MINDS, where each would send them. */
    static final class Ways {
        private final Told told;
        private Now now;
        int to = 0;
        /** Where the PERSON is to whom it is. */
        int target = 0;
        /** One who sends nothing. */
        int barred = NONE;
        final int[] where = new int[MOST_PEOPLE];
        final int[] mind = new int[MOST_PEOPLE];
        /** Where one would send it from a PLACE, at one * MOST_PLACES + PLACE: from where it is, till aimAll(). */
        final int[] goal = new int[MOST_PEOPLE * MOST_PLACES];

        Ways(Told told, Now now) {
            this.told = told;
            this.now = now;
        }

        void aim(Now by, int p) {
            aimAt(by, p, NONE);
        }

        /** For one step from a PLACE (NONE: from any) alone: only whoever is there is reckoned out. */
        void aimAt(Now by, int p, int only) {
            now = by;
            to = p;
            target = now.place[p];
            barred = NONE;
            for (int q = 0; q < told.people; q++) {
                int at = now.place[q];
                where[q] = at;
                mind[q] = 0;
                if (q != p && (only == NONE || at == only)) {
                    mind[q] = mindWith(q, careOf(q));
                    goal[q * MOST_PLACES + at] = goalFrom(q, at);
                }
            }
        }

        /** For MOVES: where each would send it from any PLACE. */
        void aimAll() {
            for (int q = 0; q < told.people; q++) {
                for (int at = 0; at < told.places; at++) {
                    goal[q * MOST_PLACES + at] = goalFrom(q, at);
                }
            }
        }

        int careOf(int q) {
            return now.care[q * MOST_PEOPLE + to];
        }

        int mindWith(int q, int care) {
            if (!told.laws.has(MINDS_LAW)) {
                return care;
            }
            setMeaning(q);
            told.laws.meaning[W_CARES] = care;
            return told.laws.tell(MINDS_LAW);
        }

        private void setMeaning(int q) {
            int[] meaning = told.laws.meaning;
            meaning[W_WHO] = q;
            meaning[W_OF] = to;
            meaning[W_MOOD] = now.mood[q];
            meaning[W_KIN] = told.family[q] == told.family[to] ? 1 : 0;
            meaning[W_HOME] = told.home[to];
            meaning[W_OWN] = told.home[q];
        }

        private int goalFrom(int q, int at) {
            if (!told.laws.has(SENDS_LAW) || told.places < 1) {
                return told.home[to];
            }
            setMeaning(q);
            told.laws.meaning[W_AT] = at;
            return Math.floorMod(told.laws.tell(SENDS_LAW), told.places);
        }

        int bestAt(int place, int but) {
            int best = NONE;
            for (int q = 0; q < told.people; q++) {
                boolean may = q != to && q != but && where[q] == place && mind[q] > 0;
                if (may && (best == NONE || mind[q] > mind[best])) {
                    best = q;
                }
            }
            return best;
        }

        int nextOf(int place) {
            if (place == target) {
                return place;
            }
            int q = bestAt(place, barred);
            return q == NONE ? place : goal[q * MOST_PLACES + place];
        }

        int placeIn(int from, int days) {
            // A WAY is in its RING after 6 DAYS, and 60 DAYS go round a RING of any length up to 6.
            int left = days < 66 ? days : 6 + (days - 6) % 60;
            int at = from;
            for (int i = 0; i < left; i++) {
                at = nextOf(at);
            }
            return at;
        }

        int daysTillGiven(int from) {
            int at = from;
            for (int day = 0; day < told.places; day++) {
                if (at == target) {
                    return day;
                }
                at = nextOf(at);
            }
            return NONE;
        }

        /** The PLACES that come again, as bits: one alone, if it stays there. */
        int ringBits(int from) {
            int at = placeIn(from, MOST_PLACES);
            int bits = 0;
            for (int i = 0; i < MOST_PLACES; i++) {
                bits |= 1 << at;
                at = nextOf(at);
            }
            return bits;
        }

        int daysTillIn(int from, int bits) {
            int at = from;
            for (int day = 0; day < MOST_PLACES; day++) {
                if ((bits >> at & 1) == 1) {
                    return day;
                }
                at = nextOf(at);
            }
            return MOST_PLACES;
        }

        int senderBits(int from) {
            int ring = ringBits(from);
            int days = daysTillIn(from, ring) + Integer.bitCount(ring);
            int bits = 0;
            int at = from;
            for (int i = 0; i < days; i++) {
                int next = nextOf(at);
                if (next != at) {
                    bits |= 1 << bestAt(at, barred);
                }
                at = next;
            }
            return bits;
        }

        int sourceBits() {
            int bits = 0;
            for (int place = 0; place < told.places; place++) {
                if (daysTillGiven(place) != NONE) {
                    bits |= 1 << place;
                }
            }
            return bits;
        }

        boolean goesAs(int from, Tray tray) {
            int at = from;
            for (int i = 0; i < tray.size; i++) {
                if (tray.number[i] != NONE && tray.number[i] != at) {
                    return false;
                }
                at = nextOf(at);
            }
            return true;
        }

        /** Where the PERSON can be, so that the WAY is as SEEN. */
        int targetBits(int from, Tray tray) {
            int bits = 0;
            int is = target;
            for (int place = 0; place < told.places; place++) {
                target = place;
                if (goesAs(from, tray)) {
                    bits |= 1 << place;
                }
            }
            target = is;
            return bits;
        }

        /** How much one can CARE, so that the WAY is as SEEN. */
        int careBits(int q, int from, Tray tray) {
            int bits = 0;
            int is = mind[q];
            for (int care = 0; care <= MOST_CARE; care++) {
                mind[q] = mindWith(q, care);
                if (goesAs(from, tray)) {
                    bits |= 1 << care;
                }
            }
            mind[q] = is;
            return bits;
        }

        /** Whether it could get to the PERSON, if whoever is wanted were wherever it is wanted. */
        boolean couldCome(int from) {
            int bits = 1 << from;
            for (int i = 0; i < told.places; i++) {
                for (int place = 0; place < told.places; place++) {
                    if ((bits >> place & 1) == 1) {
                        bits |= goalBits(place);
                    }
                }
            }
            return (bits >> target & 1) == 1;
        }

        private int goalBits(int place) {
            int bits = 0;
            for (int q = 0; q < told.people; q++) {
                if (q != to && mind[q] > 0) {
                    bits |= 1 << goal[q * MOST_PLACES + place];
                }
            }
            return bits;
        }
    }

    /** DEEDS: each is done, or refused and nothing is changed. */
    static final class Deeds {
        private final Told told;
        private final Ways ways;
        /** Why the latest actAll() did not do all (0: it did). */
        int why = 0;
        private int x = 0;

        Deeds(Told told, Ways ways) {
            this.told = told;
            this.ways = ways;
        }

        int act(Now now, int kind, int a, int b) {
            if (a < 0 || a >= told.people) {
                return CAN_NOT;
            }
            switch (kind) {
                case POSTING:
                    return sendOut(now, a, b);
                case MOVING:
                    return shift(now, a, b);
                case AROUSING:
                    return stir(now, a, b);
                default:
                    return turn(now, a, b);
            }
        }

        private int sendOut(Now now, int p, int place) {
            if (place < 0 || place >= told.places) {
                return CAN_NOT;
            }
            int l = now.letters;
            if (l >= MOST_LETTERS) {
                return CAN_NO_MORE;
            }
            now.to[l] = p;
            now.lie[l] = place;
            now.posted[l] = now.day;
            now.given[l] = now.place[p] == place ? now.day : NONE;
            now.letters = l + 1;
            return l;
        }

        private int shift(Now now, int p, int place) {
            if (place < 0 || place >= told.places) {
                return CAN_NOT;
            }
            if (now.place[p] == place) {
                return CAN_NO_MORE;
            }
            now.place[p] = place;
            int came = 0;
            for (int l = 0; l < now.letters; l++) {
                if (now.to[l] == p && now.lie[l] == place && now.given[l] == NONE) {
                    now.given[l] = now.day;
                    came++;
                }
            }
            return came;
        }

        private int stir(Now now, int p, int q) {
            if (q < 0 || q >= told.people || p == q) {
                return CAN_NOT;
            }
            int i = p * MOST_PEOPLE + q;
            if (now.care[i] >= MOST_CARE) {
                return CAN_NO_MORE;
            }
            now.care[i]++;
            return now.care[i];
        }

        private int turn(Now now, int p, int n) {
            if (n < 0 || n > MOST_MOOD) {
                return CAN_NOT;
            }
            int was = now.mood[p];
            now.mood[p] = n;
            return was;
        }

        /** So many DAYS: each LETTER goes by itself, as nobody moves and no LETTER changes who MINDS. */
        int pass(Now now, int days) {
            int came = 0;
            for (int l = 0; l < now.letters; l++) {
                if (now.given[l] == NONE) {
                    ways.aimAt(now, now.to[l], days == 1 ? now.lie[l] : NONE);
                    came += carry(now, l, days);
                }
            }
            now.day += days;
            return came;
        }

        private int carry(Now now, int l, int days) {
            for (int i = 1; i <= days; i++) {
                int next = ways.nextOf(now.lie[l]);
                if (next == now.lie[l]) {
                    return 0;
                }
                now.lie[l] = next;
                if (next == ways.target) {
                    now.given[l] = now.day + i;
                    return 1;
                }
            }
            return 0;
        }

        int actAll(Now now, Tray tray) {
            why = 0;
            for (int i = 0; i < tray.size; i++) {
                long v = tray.number[i];
                int got = v == NONE ? pass(now, 1) : actTold(now, v);
                if (got < 0) {
                    why = got == CAN_NOT ? 1 : 2;
                    return i;
                }
            }
            return tray.size;
        }

        private int actTold(Now now, long v) {
            if (v < 0 || v > 399) {
                return CAN_NOT;
            }
            int deed = (int) v;
            return act(now, deed / 100, deed / 10 % 10, deed % 10);
        }

        int actByDraws(Now now, int seed, int times) {
            x = seed;
            int done = 0;
            for (int i = 0; i < times; i++) {
                int drawn = draw(6);
                int got = drawn < 2 ? pass(now, 1) : actDrawn(now, drawn - 2);
                if (got >= 0) {
                    done++;
                }
            }
            return done;
        }

        private int actDrawn(Now now, int kind) {
            int a = draw(6);
            int b = draw(kind == HAVING_MOOD ? 10 : 6);
            return act(now, kind, a, b);
        }

        private int draw(int kinds) {
            x = 1103515245 * x + 12345;
            return kinds > 0 ? (x >>> 16) % kinds : 0;
        }
    }

    /** The calls that can be undone: what was ahead of each, the eldest at first. */
    static final class Past {
        private final Now[] ahead = new Now[MOST_UNDONE];
        private int first = 0;
        int size = 0;

        Past() {
            for (int i = 0; i < MOST_UNDONE; i++) {
                ahead[i] = new Now();
            }
        }

        void keep(Now was) {
            if (size >= MOST_UNDONE) {
                first = (first + 1) % MOST_UNDONE;
                size--;
            }
            ahead[(first + size) % MOST_UNDONE].copy(was);
            size++;
        }

        void bringBack(int n, Now now) {
            if (n > 0 && n <= size) {
                size -= n;
                now.copy(ahead[(first + size) % MOST_UNDONE]);
            }
        }
    }

    /** Looks for MOVES and FEELING, with one more each time, so that the first that does is the one wanted. */
    static final class Seeker {
        private static final int MOST_FEELING = 9;

        private final Told told;
        private final Ways ways;
        private int from = 0;
        final int[] aroused = new int[MOST_PEOPLE];
        /** How much one would MIND by how much it would CARE, at one * CARES + how much. */
        private final int[] mindBy = new int[MOST_PEOPLE * (MOST_CARE + 1)];

        Seeker(Told told, Ways ways) {
            this.told = told;
            this.ways = ways;
        }

        /** The ways are left as they are with the MOVES done. */
        int fewestMoves(int place) {
            from = place;
            ways.aimAll();
            if (!ways.couldCome(from)) {
                return NONE;
            }
            int movable = 0;
            for (int q = 0; q < told.people; q++) {
                movable += isFixed(q) ? 0 : 1;
            }
            for (int n = 0; n <= movable; n++) {
                if (settle(0, n)) {
                    return n;
                }
            }
            return NONE;
        }

        // One who MINDS not at all sends nothing anywhere: the fewest MOVES never need it.
        private boolean isFixed(int q) {
            return q == ways.to || ways.mind[q] <= 0;
        }

        private boolean settle(int q, int left) {
            if (q >= told.people) {
                return left == 0 && ways.daysTillGiven(from) != NONE;
            }
            int is = ways.where[q];
            boolean moves = left > 0 && !isFixed(q);
            for (int place = 0; place < told.places; place++) {
                if (place == is || moves) {
                    ways.where[q] = place;
                    if (settle(q + 1, place == is ? left : left - 1)) {
                        return true;
                    }
                }
            }
            ways.where[q] = is;
            return false;
        }

        int leastFeeling(int place) {
            from = place;
            for (int q = 0; q < told.people; q++) {
                aroused[q] = 0;
                for (int care = 0; care <= MOST_CARE && q != ways.to; care++) {
                    mindBy[q * (MOST_CARE + 1) + care] = ways.mindWith(q, care);
                }
            }
            for (int n = 0; n <= MOST_FEELING; n++) {
                if (stirUp(0, n)) {
                    return n;
                }
            }
            return NONE;
        }

        private boolean stirUp(int q, int left) {
            if (q >= told.people) {
                return left == 0 && ways.daysTillGiven(from) != NONE;
            }
            if (q == ways.to) {
                return stirUp(q + 1, left);
            }
            int care = ways.careOf(q);
            int is = ways.mind[q];
            for (int n = 0; n <= left && care + n <= MOST_CARE; n++) {
                aroused[q] = n;
                ways.mind[q] = mindBy[q * (MOST_CARE + 1) + care + n];
                if (stirUp(q + 1, left - n)) {
                    return true;
                }
            }
            aroused[q] = 0;
            ways.mind[q] = is;
            return false;
        }
    }

    /** CHANCE from every PLACE, as so many of the whole, which is 10 times as much each DAY. */
    static final class Chances {
        private final Told told;
        private final Ways ways;
        long whole = 1;
        final long[] given = new long[MOST_PLACES];
        private final long[] was = new long[MOST_PLACES];

        Chances(Told told, Ways ways) {
            this.told = told;
            this.ways = ways;
        }

        void begin() {
            whole = 1;
            for (int place = 0; place < MOST_PLACES; place++) {
                given[place] = place == ways.target ? 1 : 0;
            }
        }

        void addDays(int n) {
            for (int day = 0; day < n; day++) {
                System.arraycopy(given, 0, was, 0, MOST_PLACES);
                whole *= 10;
                for (int place = 0; place < told.places; place++) {
                    given[place] = place == ways.target ? whole : onFrom(place);
                }
            }
        }

        private long onFrom(int place) {
            int first = ways.bestAt(place, NONE);
            if (first == NONE) {
                return 10 * was[place];
            }
            int second = ways.bestAt(place, first);
            int goal = ways.goal[first * MOST_PLACES + place];
            int otherwise = second == NONE ? place : ways.goal[second * MOST_PLACES + place];
            int away = told.away[first];
            return (10 - away) * was[goal] + away * was[otherwise];
        }

        /** The number above (0) or below (1): the whole has no other divisors than 2 and 5. */
        long lowest(int place, int what) {
            long above = given[place];
            long below = whole;
            for (int i = 0; i < MOST_CHANCE_DAYS; i++) {
                if (above % 2 == 0 && below % 2 == 0) {
                    above /= 2;
                    below /= 2;
                }
                if (above % 5 == 0 && below % 5 == 0) {
                    above /= 5;
                    below /= 5;
                }
            }
            return what == 0 ? above : below;
        }
    }

    /** A TRAY of numbers. */
    static final class Tray {
        boolean there = false;
        private int sort = 0;
        int size = 0;
        final long[] number = new long[MOST_NUMBERS];

        void begin(int sort, int n) {
            there = true;
            this.sort = sort;
            size = n;
            for (int i = 0; i < MOST_NUMBERS; i++) {
                number[i] = 0;
            }
        }

        long put(int i, long v) {
            number[i] = cut(v);
            return number[i];
        }

        private long cut(long v) {
            switch (sort) {
                case 0:
                    return (byte) v;
                case 1:
                    return (short) v;
                case 2:
                    return (int) v;
                default:
                    return v;
            }
        }
    }
}
