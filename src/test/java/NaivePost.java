import java.math.BigInteger;
import java.util.ArrayList;
import java.util.Arrays;
import java.util.HashSet;
import java.util.List;
import java.util.Set;
import java.util.function.Function;

/** The document told a second time, as slowly and plainly as can be, for CompareTest to hold MindPost against. */
final class NaivePost {

    static final class Fault extends RuntimeException {
        final int kind;
        final int place;

        Fault(int kind, int place) {
            this.kind = kind;
            this.place = place;
        }
    }

    /** Who would send, to whom, how much it cares, where it is: what a law is told of. */
    record Asked(State s, int who, int of, int cares, int at) { }

    interface Law extends Function<Asked, Long> { }

    static final class Letter implements Cloneable {
        int to;
        int place;
        int posted;
        int givenOn = -1;

        Letter twin() {
            Letter l = new Letter();
            l.to = to;
            l.place = place;
            l.posted = posted;
            l.givenOn = givenOn;
            return l;
        }
    }

    static final class State {
        int places = 2;
        int lines;
        int day;
        List<Integer> place = new ArrayList<>();
        List<Integer> home = new ArrayList<>();
        List<Integer> family = new ArrayList<>();
        List<Integer> mood = new ArrayList<>();
        List<Integer> away = new ArrayList<>();
        int[][] care = new int[6][6];
        Law minds = a -> (long) a.cares;
        Law sends = a -> (long) a.s.home.get(a.of);
        List<Letter> letters = new ArrayList<>();

        State twin() {
            State t = new State();
            t.places = places;
            t.lines = lines;
            t.day = day;
            t.place = new ArrayList<>(place);
            t.home = home;
            t.family = family;
            t.mood = new ArrayList<>(mood);
            t.away = away;
            for (int i = 0; i < 6; i++) {
                t.care[i] = care[i].clone();
            }
            t.minds = minds;
            t.sends = sends;
            for (Letter l : letters) {
                t.letters.add(l.twin());
            }
            return t;
        }

        int people() {
            return place.size();
        }

        int mind(int who, int of) {
            return (int) (long) minds.apply(new Asked(this, who, of, care[who][of], place.get(who)));
        }

        int would(int who, int of) {
            long tells = sends.apply(new Asked(this, who, of, care[who][of], place.get(who)));
            return (int) (((tells % places) + places) % places);
        }

        /** All who would send it on, the first one first. */
        List<Integer> senders(int to, int at) {
            List<Integer> all = new ArrayList<>();
            for (int q = 0; q < people(); q++) {
                if (q != to && place.get(q) == at && mind(q, to) > 0) {
                    all.add(q);
                }
            }
            all.sort((x, y) -> mind(x, to) != mind(y, to) ? mind(y, to) - mind(x, to) : x - y);
            return all;
        }

        void pass() {
            day++;
            for (Letter l : letters) {
                if (l.givenOn < 0) {
                    List<Integer> who = senders(l.to, l.place);
                    if (!who.isEmpty()) {
                        l.place = would(who.get(0), l.to);
                    }
                    if (l.place == place.get(l.to)) {
                        l.givenOn = day;
                    }
                }
            }
        }

        int given() {
            int bits = 0;
            for (int l = 0; l < letters.size(); l++) {
                bits |= letters.get(l).givenOn >= 0 ? 1 << l : 0;
            }
            return bits;
        }

        /** Places of a way for so many days, 0 and the last one too. */
        int[] way(int p, int from, int days) {
            int[] out = new int[days + 1];
            int at = from;
            for (int d = 0; d <= days; d++) {
                out[d] = at;
                if (at != place.get(p)) {
                    List<Integer> who = senders(p, at);
                    at = who.isEmpty() ? at : would(who.get(0), p);
                }
            }
            return out;
        }

        int comes(int p, int from) {
            int[] way = way(p, from, 12);
            for (int d = 0; d <= 12; d++) {
                if (way[d] == place.get(p)) {
                    return d;
                }
            }
            return -1;
        }
    }

    /** Reads a text, throwing its first fault. */
    static final class Parser {
        static final Set<String> BOTH = Set.of("who", "of", "mood", "kin");
        static final Set<String> IN_MINDS = Set.of("cares");
        static final Set<String> IN_SENDS = Set.of("at", "home", "own");
        final String text;
        int next;
        int start;
        String token;
        final State s = new State();
        boolean inMinds;

        Parser(String text) {
            this.text = text;
            advance();
        }

        void advance() {
            while (next < text.length() && (text.charAt(next) == 10 || text.charAt(next) == 32)) {
                next++;
            }
            start = next;
            if (next == text.length()) {
                token = "";
                return;
            }
            String rest = text.substring(next);
            String word = rest.replaceFirst("(?s)^([a-z]*).*$", "$1");
            String digits = rest.replaceFirst("(?s)^([0-9]*).*$", "$1");
            if (!word.isEmpty()) {
                token = word;
            } else if (!digits.isEmpty() && digits.length() <= 3) {
                token = digits;
            } else if (digits.isEmpty() && ";:+-*()[]=<>".indexOf(rest.charAt(0)) >= 0) {
                token = rest.substring(0, 1);
            } else {
                token = "?";
                return;
            }
            next += token.length();
        }

        Fault fault(int kind) {
            return new Fault(token.equals("?") ? 1 : kind, start);
        }

        boolean is(String what) {
            return token.equals(what);
        }

        void take(String what) {
            if (!is(what)) {
                throw fault(2);
            }
            advance();
        }

        boolean isNumber() {
            return !token.isEmpty() && Character.isDigit(token.charAt(0));
        }

        int number(int low, int high, int not) {
            if (!isNumber()) {
                throw fault(2);
            }
            int v = Integer.parseInt(token);
            if (v < low || v > high || v == not) {
                throw fault(3);
            }
            advance();
            return v;
        }

        State post() {
            take("places");
            s.places = number(2, 6, -1);
            take(";");
            s.lines = 1;
            while (!token.isEmpty()) {
                line();
                take(";");
                s.lines++;
            }
            return s;
        }

        void line() {
            if (is("person")) {
                person();
            } else if (is("cares")) {
                advance();
                int who = number(0, s.people() - 1, -1);
                take("for");
                int of = number(0, s.people() - 1, who);
                s.care[who][of] = number(0, 9, -1);
            } else if (is("minds")) {
                advance();
                take(":");
                inMinds = true;
                s.minds = sum(0);
            } else if (is("sends")) {
                advance();
                take(":");
                inMinds = false;
                s.sends = sum(0);
            } else if (is("day")) {
                advance();
                s.day = number(0, 999, -1);
            } else {
                throw fault(2);
            }
        }

        void person() {
            if (s.people() == 6) {
                throw fault(4);
            }
            advance();
            take("at");
            int at = number(0, s.places - 1, -1);
            int home = at;
            int family = 0;
            int mood = 0;
            int away = 0;
            while (true) {
                if (is("home")) {
                    advance();
                    home = number(0, s.places - 1, -1);
                } else if (is("family")) {
                    advance();
                    family = number(0, 9, -1);
                } else if (is("mood")) {
                    advance();
                    mood = number(0, 9, -1);
                } else if (is("away")) {
                    advance();
                    away = number(0, 10, -1);
                } else {
                    break;
                }
            }
            s.place.add(at);
            s.home.add(home);
            s.family.add(family);
            s.mood.add(mood);
            s.away.add(away);
        }

        static long keep(long v) {
            return Math.max(-1000000, Math.min(1000000, v));
        }

        void nest(int depth) {
            if (depth > 6) {
                throw fault(4);
            }
        }

        Law sum(int depth) {
            Law left = term(depth);
            while (is("+") || is("-")) {
                boolean plus = is("+");
                advance();
                Law l = left;
                Law r = term(depth);
                left = a -> keep(plus ? l.apply(a) + r.apply(a) : l.apply(a) - r.apply(a));
            }
            return left;
        }

        Law term(int depth) {
            Law left = atom(depth);
            while (is("*")) {
                advance();
                Law l = left;
                Law r = atom(depth);
                left = a -> keep(l.apply(a) * r.apply(a));
            }
            return left;
        }

        Law atom(int depth) {
            if (isNumber()) {
                long v = number(0, 999, -1);
                return a -> v;
            }
            if (is("(")) {
                nest(depth + 1);
                advance();
                Law in = sum(depth + 1);
                take(")");
                return in;
            }
            if (is("if")) {
                nest(depth + 1);
                advance();
                Law truth = truth(depth + 1);
                take("then");
                Law then = sum(depth + 1);
                take("else");
                Law other = sum(depth + 1);
                take("end");
                return a -> truth.apply(a) == 1 ? then.apply(a) : other.apply(a);
            }
            String word = token;
            if (!BOTH.contains(word) && !(inMinds ? IN_MINDS : IN_SENDS).contains(word)) {
                throw fault(2);
            }
            advance();
            return a -> (long) switch (word) {
                case "who" -> a.who;
                case "of" -> a.of;
                case "mood" -> a.s.mood.get(a.who);
                case "kin" -> a.s.family.get(a.who).equals(a.s.family.get(a.of)) ? 1 : 0;
                case "cares" -> a.cares;
                case "at" -> a.at;
                case "home" -> a.s.home.get(a.of);
                default -> a.s.home.get(a.who);
            };
        }

        Law truth(int depth) {
            Law left = both(depth);
            while (is("or")) {
                advance();
                Law l = left;
                Law r = both(depth);
                left = a -> l.apply(a) + r.apply(a) > 0 ? 1L : 0L;
            }
            return left;
        }

        Law both(int depth) {
            Law left = unit(depth);
            while (is("and")) {
                advance();
                Law l = left;
                Law r = unit(depth);
                left = a -> l.apply(a) * r.apply(a);
            }
            return left;
        }

        Law unit(int depth) {
            if (is("not")) {
                nest(depth + 1);
                advance();
                Law in = unit(depth + 1);
                return a -> 1 - in.apply(a);
            }
            if (is("[")) {
                nest(depth + 1);
                advance();
                Law in = truth(depth + 1);
                take("]");
                return in;
            }
            Law l = sum(depth);
            String sign = token;
            if (!sign.equals("=") && !sign.equals("<") && !sign.equals(">")) {
                throw fault(2);
            }
            advance();
            Law r = sum(depth);
            return a -> {
                int c = Long.compare(l.apply(a), r.apply(a));
                return c == (sign.equals("=") ? 0 : sign.equals("<") ? -1 : 1) ? 1L : 0L;
            };
        }
    }

    private final StringBuilder tape = new StringBuilder();
    private State s = new State();
    private int faultKind;
    private int faultPlace = -1;
    private final List<State> past = new ArrayList<>();
    private final State[] images = new State[2];
    private final long[][] trays = new long[4][];
    private final int[] sorts = new int[4];

    private boolean isP(long p) {
        return p >= 0 && p < s.people();
    }

    private boolean isL(long place) {
        return place >= 0 && place < s.places;
    }

    private boolean isT(long t) {
        return t >= 0 && t < 4;
    }

    private void keep(State was) {
        past.add(was);
        if (past.size() > 10) {
            past.remove(0);
        }
    }

    long call(String name, long[] a) {
        switch (name) {
            case "feed":
                return feed(a);
            case "post":
                return post((int) a[0]);
            case "fault":
                return a[0] == 0 ? faultKind : a[0] == 1 ? faultPlace : -1;
            case "person":
                return person(a[0], a[1]);
            case "cares":
                return !isP(a[0]) || !isP(a[1]) ? -2 : s.care[(int) a[0]][(int) a[1]];
            case "minds":
                return !isP(a[0]) || !isP(a[1]) || a[0] == a[1] ? -99000002 : s.mind((int) a[0], (int) a[1]);
            case "would":
                return !isP(a[0]) || !isP(a[1]) || a[0] == a[1] ? -2 : s.would((int) a[0], (int) a[1]);
            case "letter":
                return letter(a[0], a[1]);
            case "mail", "move", "arouse", "mood":
                return single(name, a);
            case "days":
                return days(a[0]);
            case "undo":
                return undo(a[0]);
            case "judge":
                return judge(a[0], a[1]);
            case "perform":
                return perform(a[0]);
            case "year":
                return year((int) a[0], a[1]);
            case "numbers":
                return numbers(a[0], a[1], a[2]);
            case "write":
                return write(a[0], a[1], a[2]);
            case "lists":
                return lists(a[0], a[1], a[2]);
            case "image":
                if (a[0] < 0 || a[0] > 1) {
                    return -2;
                }
                images[(int) a[0]] = s.twin();
                return 0;
            case "restore":
                if (a[0] < 0 || a[0] > 1) {
                    return -2;
                }
                if (images[(int) a[0]] == null) {
                    return -5;
                }
                s = images[(int) a[0]].twin();
                past.clear();
                return 0;
            case "count":
                return count(a[0]);
            default:
                return asked(name, a);
        }
    }

    private long feed(long[] a) {
        if (tape.length() > 880) {
            return -5;
        }
        for (long v : a) {
            for (int shift = 24; shift >= 0; shift -= 8) {
                tape.append((char) ((v >> shift) & 255));
            }
        }
        return tape.length();
    }

    private long post(int n) {
        if (n < 0 || n > tape.length()) {
            return -3;
        }
        String text = tape.substring(0, n);
        tape.setLength(0);
        faultKind = 0;
        faultPlace = -1;
        try {
            s = new Parser(text).post();
        } catch (Fault f) {
            faultKind = f.kind;
            faultPlace = f.place;
            return -30 - f.kind;
        }
        past.clear();
        return s.lines;
    }

    private long person(long p, long what) {
        if (!isP(p) || what < 0 || what > 5) {
            return -2;
        }
        int i = (int) p;
        if (what == 5) {
            int bits = 0;
            for (int l = 0; l < s.letters.size(); l++) {
                bits += s.letters.get(l).to == i ? 1 << l : 0;
            }
            return bits;
        }
        return List.of(s.place, s.home, s.family, s.mood, s.away).get((int) what).get(i);
    }

    private long letter(long l, long what) {
        if (l < 0 || l >= s.letters.size() || what < 0 || what > 4) {
            return -2;
        }
        Letter x = s.letters.get((int) l);
        boolean given = x.givenOn >= 0;
        if (what == 0) {
            return x.place;
        }
        if (what == 1) {
            return x.to;
        }
        if (what == 2) {
            return given ? 1 : 0;
        }
        if (what == 3) {
            return (given ? x.givenOn : s.day) - x.posted;
        }
        List<Integer> who = s.senders(x.to, x.place);
        return given || who.isEmpty() ? -1 : who.get(0);
    }

    /** 0 if it is done, else why not; answer[0] is what the call tells. */
    private static int deed(State s, String name, long x, long y, long[] answer) {
        if (x < 0 || x >= s.people()) {
            return 1;
        }
        int a = (int) x;
        switch (name) {
            case "mail": {
                if (y < 0 || y >= s.places) {
                    return 1;
                }
                if (s.letters.size() == 6) {
                    return 2;
                }
                Letter l = new Letter();
                l.to = a;
                l.place = (int) y;
                l.posted = s.day;
                if (s.place.get(a) == y) {
                    l.givenOn = s.day;
                }
                answer[0] = s.letters.size();
                s.letters.add(l);
                return 0;
            }
            case "move":
                if (y < 0 || y >= s.places) {
                    return 1;
                }
                if (s.place.get(a) == y) {
                    return 2;
                }
                s.place.set(a, (int) y);
                answer[0] = 0;
                for (Letter l : s.letters) {
                    if (l.to == a && l.place == y && l.givenOn < 0) {
                        l.givenOn = s.day;
                        answer[0]++;
                    }
                }
                return 0;
            case "arouse":
                if (y < 0 || y >= s.people() || x == y) {
                    return 1;
                }
                if (s.care[a][(int) y] == 9) {
                    return 2;
                }
                answer[0] = ++s.care[a][(int) y];
                return 0;
            default:
                if (y < 0 || y > 9) {
                    return 1;
                }
                answer[0] = s.mood.get(a);
                s.mood.set(a, (int) y);
                return 0;
        }
    }

    private long single(String name, long[] a) {
        State was = s.twin();
        long[] answer = new long[1];
        int why = deed(s, name, a[0], a[1], answer);
        if (why != 0) {
            return -10 - why;
        }
        keep(was);
        return answer[0];
    }

    private long days(long n) {
        if (n < 1 || n > 99) {
            return -3;
        }
        keep(s.twin());
        int was = Integer.bitCount(s.given());
        for (int d = 0; d < n; d++) {
            s.pass();
        }
        return Integer.bitCount(s.given()) - was;
    }

    private long undo(long n) {
        if (n < 1 || n > 10 || n > past.size()) {
            return -3;
        }
        for (int i = 0; i < n; i++) {
            s = past.remove(past.size() - 1);
        }
        return past.size();
    }

    private static final String[] KINDS = {"mail", "move", "arouse", "mood"};

    private static int told(State s, long v) {
        if (v == -1) {
            s.pass();
            return 0;
        }
        if (v < 0 || v > 399) {
            return 1;
        }
        return deed(s, KINDS[(int) v / 100], v % 100 / 10, v % 10, new long[1]);
    }

    private long judge(long t, long what) {
        if (!isT(t) || what < 0 || what > 3) {
            return -2;
        }
        long[] tray = trays[(int) t];
        if (tray == null) {
            return -6;
        }
        State u = s.twin();
        int why = 0;
        int i = 0;
        while (i < tray.length && (why = told(u, tray[i])) == 0) {
            i++;
        }
        int lying = 0;
        for (Letter l : u.letters) {
            lying |= l.givenOn < 0 ? 1 << l.place : 0;
        }
        return what == 0 ? why == 0 ? -1 : i : what == 1 ? why : what == 2 ? u.given() : lying;
    }

    private long perform(long t) {
        if (!isT(t)) {
            return -2;
        }
        long[] tray = trays[(int) t];
        if (tray == null) {
            return -6;
        }
        State was = s.twin();
        int i = 0;
        while (i < tray.length && told(s, tray[i]) == 0) {
            i++;
        }
        if (i > 0) {
            keep(was);
        }
        return i;
    }

    private int x;

    private int draw() {
        x = 1103515245 * x + 12345;
        return x >>> 16;
    }

    private long year(int seed, long times) {
        if (times < 1 || times > 40) {
            return -3;
        }
        State was = s.twin();
        x = seed;
        int could = 0;
        for (int i = 0; i < times; i++) {
            int kind = draw() % 6;
            if (kind < 2) {
                s.pass();
                could++;
            } else {
                int one = draw() % 6;
                int two = draw() % (kind == 5 ? 10 : 6);
                could += deed(s, KINDS[kind - 2], one, two, new long[1]) == 0 ? 1 : 0;
            }
        }
        if (could > 0) {
            keep(was);
        }
        return could;
    }

    private long numbers(long t, long sort, long n) {
        if (!isT(t) || sort < 0 || sort > 3) {
            return -2;
        }
        if (n < 0 || n > 40) {
            return -3;
        }
        trays[(int) t] = new long[(int) n];
        sorts[(int) t] = (int) sort;
        return 0;
    }

    private long write(long t, long i, long v) {
        if (!isT(t)) {
            return -2;
        }
        long[] tray = trays[(int) t];
        if (tray == null) {
            return -6;
        }
        if (i < 0 || i >= tray.length) {
            return -7;
        }
        int drop = 64 - (8 << sorts[(int) t]);
        return tray[(int) i] = v << drop >> drop;
    }

    private long lists(long t, long p, long place) {
        if (!isT(t) || !isP(p) || !isL(place)) {
            return -2;
        }
        long[] tray = trays[(int) t];
        if (tray == null) {
            return -6;
        }
        int[] way = s.way((int) p, (int) place, 40);
        for (int i = 0; i < tray.length; i++) {
            tray[i] = way[i];
        }
        return tray.length;
    }

    private long count(long what) {
        if (what < 0 || what > 8) {
            return -1;
        }
        int sum = 0;
        for (int[] row : s.care) {
            sum += Arrays.stream(row).sum();
        }
        return new long[] {s.places, s.people(), s.letters.size(), s.given(), s.day, sum, past.size(),
            tape.length(), s.lines}[(int) what];
    }

    /** Calls that change nothing. */
    private long asked(String name, long[] a) {
        switch (name) {
            case "hub":
                return hub();
            case "meet":
                return meet(a);
            case "seen", "probe", "heart", "suspects":
                return sight(name, a);
            case "surest":
                if (!isP(a[0])) {
                    return -2;
                }
                return a[1] < 0 || a[1] > 15 ? -3 : surest((int) a[0], (int) a[1]);
            case "sources", "soonest", "rings", "offices", "found", "hides":
                return isP(a[0]) ? ofPerson(name, (int) a[0]) : -2;
            default:
                if (!isP(a[0]) || !isL(a[1])) {
                    return -2;
                }
                return ofWay(name, (int) a[0], (int) a[1], a);
        }
    }

    private long ofWay(String name, int p, int place, long[] a) {
        switch (name) {
            case "lies":
                if (a[2] < 0 || a[2] > 99999) {
                    return -3;
                }
                return lies(p, place, (int) a[2]);
            case "comes":
                return s.comes(p, place);
            case "ends":
                return a[2] < 0 || a[2] > 3 ? -2 : ends(p, place)[(int) a[2]];
            case "hands":
                return hands(p, place);
            case "needed":
                return needed(p, place);
            case "moves", "feeling":
                if (a[2] != 0 && !isP(a[2] - 10)) {
                    return -2;
                }
                return name.equals("moves") ? moves(p, place, (int) a[2]) : feeling(p, place, (int) a[2]);
            case "chance": {
                if (a[3] < 0 || a[3] > 1) {
                    return -2;
                }
                if (a[2] < 0 || a[2] > 15) {
                    return -3;
                }
                BigInteger above = chance(p, place, (int) a[2]);
                BigInteger below = BigInteger.TEN.pow((int) a[2]);
                BigInteger g = above.gcd(below);
                return (a[3] == 0 ? above : below).divide(g).longValue();
            }
            case "likely":
                if (a[2] < 0 || a[2] > 100) {
                    return -3;
                }
                for (int n = 0; n <= 15; n++) {
                    BigInteger most = BigInteger.TEN.pow(n).multiply(BigInteger.valueOf(a[2]));
                    if (chance(p, place, n).multiply(BigInteger.valueOf(100)).compareTo(most) >= 0) {
                        return n;
                    }
                }
                return -1;
            default:
                throw new IllegalStateException(name);
        }
    }

    private int lies(int p, int place, int n) {
        // Walked whole, but with each place's next one asked only once.
        int[] next = new int[s.places];
        for (int i = 0; i < s.places; i++) {
            next[i] = s.way(p, i, 1)[1];
        }
        int at = place;
        for (int d = 0; d < n; d++) {
            at = next[at];
        }
        return at;
    }

    private int[] ends(int p, int place) {
        int[] way = s.way(p, place, 40);
        for (int d = 0; ; d++) {
            for (int length = 1; length <= 6; length++) {
                if (way[d] == way[d + length]) {
                    int kind = way[d] == s.place.get(p) ? 0 : length == 1 ? 1 : 2;
                    return new int[] {kind, length, d, way[d]};
                }
            }
        }
    }

    private int hands(int p, int place) {
        int[] way = s.way(p, place, 40);
        int bits = 0;
        for (int d = 0; d < 40; d++) {
            if (way[d] != way[d + 1]) {
                bits |= 1 << s.senders(p, way[d]).get(0);
            }
        }
        return bits;
    }

    private long needed(int p, int place) {
        if (s.comes(p, place) < 0) {
            return 0;
        }
        int bits = 0;
        for (int q = 0; q < s.people(); q++) {
            State t = s.twin();
            if (q != p) {
                // Nowhere: it meets no letter.
                t.place.set(q, 99);
                bits |= t.comes(p, place) < 0 ? 1 << q : 0;
            }
        }
        return bits;
    }

    private long moves(int p, int place, int what) {
        State best = null;
        int fewest = 99;
        int all = (int) Math.pow(s.places, s.people());
        State t = s.twin();
        int[][] would = new int[s.people()][s.places];
        for (int q = 0; q < s.people(); q++) {
            for (int at = 0; at < s.places; at++) {
                t.place.set(q, at);
                would[q][at] = q == p ? -1 : t.would(q, p);
            }
        }
        for (int code = 0; code < all; code++) {
            int moved = 0;
            int rest = code;
            for (int q = s.people() - 1; q >= 0; q--) {
                t.place.set(q, rest % s.places);
                rest /= s.places;
                moved += t.place.get(q).equals(s.place.get(q)) ? 0 : 1;
            }
            if (t.place.get(p).equals(s.place.get(p)) && moved < fewest && gets(t, p, place, would)) {
                fewest = moved;
                best = t.twin();
            }
        }
        return best == null ? -1 : what == 0 ? fewest : best.place.get(what - 10);
    }

    private boolean gets(State t, int p, int from, int[][] would) {
        int at = from;
        for (int d = 0; d < 8 && at != t.place.get(p); d++) {
            List<Integer> who = t.senders(p, at);
            at = who.isEmpty() ? at : would[who.get(0)][at];
        }
        return at == t.place.get(p);
    }

    private long feeling(int p, int place, int what) {
        for (int sum = 0; sum <= 9; sum++) {
            int[] often = rouse(s.twin(), p, place, 0, sum);
            if (often != null) {
                return what == 0 ? sum : often[what - 10];
            }
        }
        return -1;
    }

    private int[] rouse(State t, int p, int place, int q, int left) {
        if (q == t.people()) {
            return left == 0 && t.comes(p, place) >= 0 ? new int[6] : null;
        }
        for (int n = 0; n <= (q == p ? 0 : left); n++) {
            State u = t.twin();
            int why = 0;
            for (int i = 0; i < n; i++) {
                why += deed(u, "arouse", q, p, new long[1]);
            }
            int[] got = why != 0 ? null : rouse(u, p, place, q + 1, left - n);
            if (got != null) {
                got[q] = n;
                return got;
            }
        }
        return null;
    }

    private long ofPerson(String name, int p) {
        int places = s.places;
        int here = s.place.get(p);
        int bits = 0;
        switch (name) {
            case "sources":
                for (int i = 0; i < places; i++) {
                    bits |= s.comes(p, i) >= 0 ? 1 << i : 0;
                }
                return bits;
            case "soonest":
                for (int d = 0; d < 10; d++) {
                    for (int i = 0; i < places; i++) {
                        if (i != here && s.comes(p, i) == d) {
                            return i;
                        }
                    }
                }
                return -1;
            case "rings": {
                Set<Set<Integer>> rings = new HashSet<>();
                for (int i = 0; i < places; i++) {
                    int[] end = ends(p, i);
                    if (end[0] == 2) {
                        Set<Integer> ring = new HashSet<>();
                        for (int at : s.way(p, end[3], end[1])) {
                            ring.add(at);
                        }
                        rings.add(ring);
                    }
                }
                return rings.size();
            }
            case "offices":
                for (int i = 0; i < places; i++) {
                    int[] end = ends(p, i);
                    bits |= end[0] == 1 ? 1 << end[3] : 0;
                }
                return bits;
            default: {
                int best = -1;
                int value = 0;
                for (int i = 0; i < places; i++) {
                    State was = s;
                    s = s.twin();
                    s.place.set(p, i);
                    int from = Long.bitCount(ofPerson("sources", p));
                    s = was;
                    int good = name.equals("found") ? from : -from;
                    if (best < 0 || good > value) {
                        best = i;
                        value = good;
                    }
                }
                return best;
            }
        }
    }

    private boolean fits(State t, long[] tray, int p, int place) {
        int[] way = t.way(p, place, tray.length);
        for (int i = 0; i < tray.length; i++) {
            if (tray[i] != -1 && tray[i] != way[i]) {
                return false;
            }
        }
        return true;
    }

    private long sight(String name, long[] a) {
        boolean heart = name.equals("heart");
        if (!isT(a[0]) || !isP(a[1]) || !isL(a[2]) || heart && (!isP(a[3]) || a[3] == a[1])) {
            return -2;
        }
        long[] tray = trays[(int) a[0]];
        if (tray == null) {
            return -6;
        }
        if (tray.length < 1 || tray.length > 12) {
            return -4;
        }
        for (long v : tray) {
            if (v != -1 && !isL(v)) {
                return -3;
            }
        }
        if (name.equals("probe") && (a[3] < 1 || a[3] > 9)) {
            return -3;
        }
        int p = (int) a[1];
        int place = (int) a[2];
        if (heart) {
            return heart(tray, p, place, (int) a[3]);
        }
        if (name.equals("suspects")) {
            int bits = 0;
            for (int q = 0; q < s.people(); q++) {
                bits |= q != p && heart(tray, p, place, q) != 0 ? 1 << q : 0;
            }
            return fits(s, tray, p, place) ? 0 : bits;
        }
        int can = 0;
        for (int i = 0; i < s.places; i++) {
            State t = s.twin();
            t.place.set(p, i);
            can |= fits(t, tray, p, place) ? 1 << i : 0;
        }
        return name.equals("seen") ? can : probe(can, p, (int) a[3]);
    }

    private int heart(long[] tray, int p, int place, int q) {
        int bits = 0;
        for (int care = 0; care < 10; care++) {
            State t = s.twin();
            t.care[q][p] = care;
            bits |= fits(t, tray, p, place) ? 1 << care : 0;
        }
        return bits;
    }

    private int probe(int can, int p, int n) {
        if (can == 0) {
            return -1;
        }
        int best = -1;
        int least = 99;
        for (int from = 0; from < s.places; from++) {
            int[] there = new int[6];
            for (int i = 0; i < s.places; i++) {
                State t = s.twin();
                t.place.set(p, i);
                if ((can >> i & 1) == 1) {
                    there[t.way(p, from, n)[n]]++;
                }
            }
            int most = Arrays.stream(there).max().getAsInt();
            if (most < least) {
                least = most;
                best = from;
            }
        }
        return best;
    }

    private long hub() {
        int best = 0;
        int most = -1;
        for (int i = 0; i < s.places; i++) {
            int n = 0;
            for (int p = 0; p < s.people(); p++) {
                n += s.comes(p, i) >= 0 ? 1 : 0;
            }
            if (n > most) {
                most = n;
                best = i;
            }
        }
        return best;
    }

    private long meet(long[] a) {
        if (!isP(a[0]) || !isL(a[1]) || !isP(a[2]) || !isL(a[3])) {
            return -2;
        }
        int[] one = s.way((int) a[0], (int) a[1], 99);
        int[] two = s.way((int) a[2], (int) a[3], 99);
        for (int d = 0; d <= 99; d++) {
            if (one[d] == two[d]) {
                return d;
            }
        }
        return -1;
    }

    /** Of 10 to the n, how many: forward from the one place, unlike the program. */
    private BigInteger chance(int p, int place, int n) {
        BigInteger[] at = new BigInteger[s.places];
        Arrays.fill(at, BigInteger.ZERO);
        at[place] = BigInteger.ONE;
        int here = s.place.get(p);
        for (int d = 0; d < n; d++) {
            BigInteger[] then = new BigInteger[s.places];
            Arrays.fill(then, BigInteger.ZERO);
            for (int i = 0; i < s.places; i++) {
                List<Integer> who = i == here ? List.of() : s.senders(p, i);
                int away = who.isEmpty() ? 0 : s.away.get(who.get(0));
                int first = who.isEmpty() ? i : s.would(who.get(0), p);
                int other = who.size() < 2 ? i : s.would(who.get(1), p);
                then[first] = then[first].add(at[i].multiply(BigInteger.valueOf(10 - away)));
                then[other] = then[other].add(at[i].multiply(BigInteger.valueOf(away)));
            }
            at = then;
        }
        return at[here];
    }

    private long surest(int p, int n) {
        int best = -1;
        BigInteger most = BigInteger.ZERO;
        for (int i = 0; i < s.places; i++) {
            BigInteger c = chance(p, i, n);
            if (i != s.place.get(p) && c.compareTo(most) > 0) {
                most = c;
                best = i;
            }
        }
        return best;
    }
}
