import java.util.ArrayList;
import java.util.List;
import java.util.Random;

/** Draws texts of posts, without a fault, or most likely with one. */
final class Texts {
    private static final String[] TOKENS = {
        "places", "person", "at", "home", "family", "mood", "away", "cares", "for", "minds", "sends", "day", "who",
        "of", "kin", "own", "if", "then", "else", "end", "not", "or", "and", ";", ":", "+", "-", "*", "(", ")", "[",
        "]", "=", "<", ">", "0", "1", "2", "5", "6", "9", "10", "11", "999", "1000", "00000", "glad", "at0", "#",
        "A", "\t", "" + (char) 233, "wh", "zz", "az", "places2", "007", "" + (char) 255, "/", "`", "{", "" + (char) 0
    };
    private final Random random;
    private final List<String> tokens = new ArrayList<>();
    private boolean inMinds;
    /** Whether there may be more than six of what may be six. */
    private boolean tooMuch = false;

    private Texts(Random random) {
        this.random = random;
    }

    static String good(Random random) {
        while (true) {
            Texts t = new Texts(random);
            t.draw();
            String text = t.joined();
            if (text.length() <= 900) {
                return text;
            }
        }
    }

    static String bad(Random random) {
        Texts t = new Texts(random);
        t.tooMuch = random.nextInt(2) == 0;
        t.draw();
        int changes = random.nextInt(3);
        for (int i = 0; i < changes; i++) {
            int at = random.nextInt(t.tokens.size());
            String other = TOKENS[random.nextInt(TOKENS.length)];
            switch (random.nextInt(5)) {
                case 0 -> t.tokens.set(at, other);
                case 1 -> t.tokens.add(at, other);
                case 2 -> t.tokens.add(at, t.tokens.get(at));
                case 3 -> t.tokens.remove(at);
                default -> t.tokens.set(at, t.tokens.get(random.nextInt(t.tokens.size())));
            }
            if (t.tokens.isEmpty()) {
                return "";
            }
        }
        String text = t.joined();
        if (random.nextInt(6) == 0) {
            text = text.substring(0, random.nextInt(text.length() + 1));
        }
        return text.substring(0, Math.min(text.length(), 900));
    }

    private int r(int n) {
        return random.nextInt(n);
    }

    private void add(String... more) {
        for (String s : more) {
            tokens.add(s);
        }
    }

    private void n(int value) {
        tokens.add(r(20) == 0 && value < 100 ? "0" + value : "" + value);
    }

    private void draw() {
        if (r(3) > 0) {
            drawLively();
        } else {
            drawAny();
        }
    }

    /** A post whose letters get about: somebody nearly everywhere, who minds, and sends elsewhere. */
    private void drawLively() {
        int places = 3 + r(4);
        int people = 4 + r(3);
        add("places");
        n(places);
        add(";");
        for (int p = 0; p < people; p++) {
            add("person", "at");
            n(r(3) == 0 ? r(places) : p % places);
            add("home");
            n(r(places));
            if (r(3) > 0) {
                add("away");
                n(r(11));
            }
            if (r(4) == 0) {
                add(r(2) == 0 ? "mood" : "family");
                n(r(10));
            }
            add(";");
        }
        int law = r(4);
        for (int who = 0; who < people && law > 0; who++) {
            for (int of = 0; of < people; of++) {
                if (who != of && r(4) > 0) {
                    add("cares");
                    n(who);
                    add("for");
                    n(of);
                    n(law == 1 ? r(4) : r(10));
                    add(";");
                }
            }
        }
        if (law == 0) {
            String[] minds = {"cares + 1", "1 + kin", "cares * 2 + mood", "who - of + 3", "7 - cares", "who + cares"};
            add("minds", ":");
            add(minds[r(minds.length)].split(" "));
            add(";");
        }
        if (r(2) == 0) {
            inMinds = r(2) == 0;
            add(inMinds ? "minds" : "sends", ":");
            sum(6);
            add(";");
            if (!inMinds) {
                return;
            }
        }
        String[] sends = {"own", "own", "at + 1", "at + who + 1", "own + of", "at * 2 + 1", "own - mood", "at - 1",
            "if kin = 1 then own else home end", "if of < 3 then at + 1 else own end"};
        add("sends", ":");
        add(sends[r(sends.length)].split(" "));
        add(";");
    }

    private void drawAny() {
        int places = 2 + r(5);
        add("places");
        n(places);
        add(";");
        int people = r(8) == 0 ? r(3) : 2 + r(5) + (tooMuch ? r(3) : 0);
        for (int p = 0; p < people; p++) {
            add("person", "at");
            n(r(places));
            while (r(2) == 0) {
                String[] flags = {"home", "family", "mood", "away"};
                int flag = r(4);
                add(flags[flag]);
                n(flag == 0 ? r(places) : flag == 1 ? r(3) : flag == 2 ? r(10) : r(11));
            }
            add(";");
        }
        int dear = people > 1 ? r(26) : 0;
        for (int i = 0; i < dear; i++) {
            int who = r(people);
            int of = (who + 1 + r(people - 1)) % people;
            add("cares");
            n(who);
            add("for");
            n(of);
            n(r(10));
            add(";");
        }
        laws();
        if (r(3) == 0) {
            add("day");
            n(r(1000));
            add(";");
        }
    }

    private void laws() {
        for (int i = r(3); i > 0; i--) {
            inMinds = r(2) == 0;
            add(inMinds ? "minds" : "sends", ":");
            sum(tooMuch ? 8 : 6);
            add(";");
        }
        if (r(2) == 0) {
            inMinds = false;
            add("sends", ":");
            String[] simple = {"own", "home", "at + 1", "who", "at + who", "own + mood", "home - at", "who * 2 + at"};
            add(simple[r(simple.length)].split(" "));
            add(";");
        }
    }

    private void sum(int depth) {
        term(depth);
        while (r(3) == 0) {
            add(r(2) == 0 ? "+" : "-");
            term(depth);
        }
    }

    private void term(int depth) {
        atom(depth);
        while (r(4) == 0) {
            add("*");
            atom(depth);
        }
    }

    private void atom(int depth) {
        int what = tooMuch && depth < 7 && depth > 0 ? r(4) : r(10);
        if (depth > 0 && what == 0) {
            add("(");
            sum(depth - 1);
            add(")");
        } else if (depth > 0 && what <= 2) {
            add("if");
            truth(depth - 1);
            add("then");
            sum(depth - 1);
            add("else");
            sum(depth - 1);
            add("end");
        } else if (what == 3) {
            n(r(4) == 0 ? r(1000) : r(10));
        } else {
            String[] words = inMinds ? new String[] {"who", "of", "mood", "kin", "cares", "cares", "cares"}
                : new String[] {"who", "of", "mood", "kin", "at", "home", "own"};
            add(words[r(words.length)]);
        }
    }

    private void truth(int depth) {
        unit(depth);
        while (r(4) == 0) {
            add(r(2) == 0 ? "and" : "or");
            unit(depth);
        }
    }

    private void unit(int depth) {
        int what = r(6);
        if (depth > 0 && what == 0) {
            add("not");
            unit(depth - 1);
        } else if (depth > 0 && what == 1) {
            add("[");
            truth(depth - 1);
            add("]");
        } else {
            sum(depth);
            add(new String[] {"=", "<", ">"}[r(3)]);
            sum(depth);
        }
    }

    private static boolean sticks(char c) {
        return c >= 'a' && c <= 'z' || c >= '0' && c <= '9';
    }

    private String joined() {
        StringBuilder text = new StringBuilder();
        for (String token : tokens) {
            boolean blank = text.length() > 0 && !token.isEmpty() && sticks(text.charAt(text.length() - 1))
                && sticks(token.charAt(0));
            if (blank && r(60) > 0 || r(30) == 0) {
                text.append(r(8) == 0 ? '\n' : ' ');
            } else if (blank) {
                // Letters behind digits, or digits behind letters, need no blank.
                char last = text.charAt(text.length() - 1);
                boolean alike = last >= 'a' == token.charAt(0) >= 'a';
                text.append(alike ? " " : "");
            }
            text.append(token);
        }
        return text.toString();
    }
}
