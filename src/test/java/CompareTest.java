import java.util.ArrayList;
import java.util.List;
import java.util.Random;

/** Runs of drawn calls, each answered by MindPost and by NaivePost, which must say the same. */
public final class CompareTest {
    private static int wrong = 0;

    public static void main(String[] args) {
        int runs = args.length > 0 ? Integer.parseInt(args[0]) : 250;
        int first = args.length > 1 ? Integer.parseInt(args[1]) : 1;
        for (int seed = first; seed < first + runs && wrong < 10; seed++) {
            new Run(seed).go();
            new Run(seed).goOverTexts();
        }
        System.out.println(wrong == 0 ? "both tell the same" : wrong + " answers are not the same");
        if (wrong != 0) {
            System.exit(1);
        }
    }

    static final class Run {
        final int seed;
        final Random random;
        final MindPost post = new MindPost();
        final NaivePost naive = new NaivePost();
        final List<String> log = new ArrayList<>();
        boolean off = false;

        Run(int seed) {
            this.seed = seed;
            random = new Random(seed);
        }

        void go() {
            if (random.nextInt(5) > 0) {
                tell(Texts.good(random));
            }
            while (log.size() < 455 && !off) {
                next();
            }
        }

        void goOverTexts() {
            for (int i = 0; i < 8 && !off; i++) {
                String text = Texts.bad(random);
                tell(text);
                both("count", 1);
                both("count", 8);
            }
        }

        int r(int n) {
            return random.nextInt(n);
        }

        long odd() {
            long[] odds = {-1, -2, 6, 7, 10, 100, Integer.MIN_VALUE, Integer.MAX_VALUE, 99, 41};
            return odds[r(odds.length)];
        }

        long person() {
            return r(25) == 0 ? odd() : r(Math.max(1, post.count(1)));
        }

        long place() {
            return r(25) == 0 ? odd() : r(post.count(0));
        }

        long tray() {
            return r(40) == 0 ? odd() : r(4);
        }

        long up(int n) {
            return r(25) == 0 ? odd() : r(n);
        }

        void tell(String text) {
            StringBuilder t = new StringBuilder(text);
            while (t.length() % 20 != 0) {
                t.append("  x;(".charAt(r(5)));
            }
            long[] a = new long[5];
            for (int i = 0; i < t.length(); i += 20) {
                for (int k = 0; k < 5; k++) {
                    int v = 0;
                    for (int j = 0; j < 4; j++) {
                        v = v << 8 | t.charAt(i + k * 4 + j);
                    }
                    a[k] = v;
                }
                both("feed", a);
            }
            both("post", text.length());
            both("fault", 0);
            both("fault", 1);
            for (int i = 0; i < 3; i++) {
                both(r(2) == 0 ? "minds" : "would", r(6), r(6));
            }
        }

        void fill() {
            long t = tray();
            int n = r(8) == 0 ? r(41) : 1 + r(6);
            both("numbers", t, up(4), r(30) == 0 ? odd() : n);
            int sort = r(4);
            for (int i = 0; i < n && log.size() < 512; i++) {
                long deed = r(4) == 0 ? -1 : r(400);
                long deed2 = r(4) * 100 + r(Math.max(1, post.count(1))) * 10 + r(6);
                both("write", t, r(40) == 0 ? odd() : i,
                    sort == 0 ? deed : sort == 1 ? deed2 : r(3) == 0 ? -1 : r(20) == 0 ? random.nextLong() : place());
            }
        }

        /** A way is listed, some of it forgotten or changed, and then asked after. */
        void look() {
            long t = tray();
            long p = person();
            long place = place();
            int n = 1 + r(r(5) == 0 ? 13 : 5);
            both("numbers", t, r(4), n);
            both("lists", t, p, place);
            for (int i = r(4); i > 0; i--) {
                both("write", t, r(n), r(2) == 0 ? -1 : place());
            }
            if (r(2) == 0) {
                both("move", r(2) == 0 ? p : person(), place());
            }
            both("seen", t, p, place);
            both("probe", t, p, place, 1 + r(9));
            both("heart", t, p, place, person());
            both("heart", t, p, place, person());
            both("suspects", t, p, place);
        }

        void next() {
            int what = r(100);
            if (what < 2) {
                String text = r(3) == 0 ? Texts.bad(random) : Texts.good(random);
                if (text.length() <= 900) {
                    tell(text);
                }
            } else if (what < 6) {
                fill();
            } else if (what < 9) {
                look();
            } else if (what < 40) {
                deed();
            } else if (what < 70) {
                ask();
            } else {
                askMore();
            }
        }

        void deed() {
            switch (r(12)) {
                case 0, 1, 2 -> both("mail", person(), place());
                case 3 -> both("move", person(), place());
                case 4 -> both("arouse", person(), person());
                case 5 -> both("mood", person(), up(10));
                case 6 -> both("days", r(10) == 0 ? r(110) : 1 + r(3));
                case 7 -> both("undo", r(3) == 0 ? r(12) : 1);
                case 8 -> both("perform", tray());
                case 9 -> both("year", random.nextInt(), r(5) == 0 ? r(43) : 1 + r(6));
                case 10 -> both(r(2) == 0 ? "image" : "restore", r(10) == 0 ? odd() : r(2));
                default -> both("judge", tray(), up(4));
            }
        }

        void ask() {
            switch (r(14)) {
                case 0 -> both("person", person(), up(6));
                case 1 -> both("cares", person(), person());
                case 2 -> both("minds", person(), person());
                case 3 -> both("would", person(), person());
                case 4 -> both("letter", up(6), up(5));
                case 5 -> both("lies", person(), place(), r(3) == 0 ? r(100002) : r(9));
                case 6 -> both("comes", person(), place());
                case 7 -> both("ends", person(), place(), up(4));
                case 8 -> both("hands", person(), place());
                case 9 -> both("sources", person());
                case 10 -> both("soonest", person());
                case 11 -> both("rings", person());
                case 12 -> both("offices", person());
                default -> both("needed", person(), place());
            }
            if (log.size() < 511) {
                both("count", up(9));
            }
        }

        void askMore() {
            long what = r(3) == 0 ? 0 : 10 + person();
            switch (r(16)) {
                case 0 -> both("moves", person(), place(), what);
                case 1 -> both("feeling", person(), place(), what);
                case 2 -> both("found", person());
                case 3 -> both("hides", person());
                case 4 -> both("seen", tray(), person(), place());
                case 5 -> both("probe", tray(), person(), place(), r(11));
                case 6 -> both("heart", tray(), person(), place(), person());
                case 7 -> both("suspects", tray(), person(), place());
                case 8 -> both("meet", person(), place(), person(), place());
                case 9 -> both("hub");
                case 10, 11 -> both("chance", person(), place(), up(16), up(2));
                case 12 -> both("likely", person(), place(), up(101));
                case 13 -> both("surest", person(), up(16));
                case 14 -> both("post", r(3) - 1);
                default -> both("fault", up(2));
            }
        }

        void both(String name, long... a) {
            if (off) {
                return;
            }
            StringBuilder call = new StringBuilder(name).append('(');
            for (int i = 0; i < a.length; i++) {
                call.append(i > 0 ? ", " : "").append(a[i]);
            }
            log.add(call.append(')').toString());
            long want = naive.call(name, a);
            long got = Calls.call(post, name, a);
            if (got != want) {
                wrong++;
                off = true;
                System.out.println("run " + seed + ", call " + log.size() + ": " + call + " answered " + got
                    + ", due is " + want);
            }
        }
    }
}
