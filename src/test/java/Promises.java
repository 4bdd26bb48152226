import java.util.ArrayList;
import java.util.List;

/** What the tests of the promises share. Calls are written out as in the document: "mail(0, 1)". */
abstract class Promises {
    /** To person 0 letters go 1, 3, 0 and 2, 3, 0; nobody minds the others. */
    static final String KIN = "places 4;person at 0 home 3;person at 1 mood 2 away 3;"
        + "person at 1 home 2 family 1 away 4;person at 2 family 1;person at 3 home 0;cares 1 for 0 5;"
        + "cares 2 for 0 7;cares 3 for 0 2;cares 4 for 0 1;sends : if kin = 1 then own else home end;day 3;";
    /** Everybody minds everybody and sends to the next place. */
    static final String LINE = "places 5;person at 0;person at 1;person at 2;person at 3;person at 4;"
        + "minds : 1;sends : at + 1;";
    /** To person 3: a ring of 0 and 1, 2 keeps its letters, 4 has nobody, 5 sends to 3. */
    static final String RING = "places 6;person at 0;person at 1;person at 2;person at 3;person at 5;"
        + "minds : 1;sends : if at < 2 then 1 - at else if at = 5 then 3 else at end end;";
    /** Six people at six places, one each. */
    static final String SIX = "places 6;person at 0;person at 1;person at 2;person at 3;person at 4;person at 5;";

    static final long[] NO_PERSONS = {-1, 6, 7, 10, Integer.MIN_VALUE, Integer.MAX_VALUE};

    /** The sentences of the document that the test is of. */
    final List<String> sentences = new ArrayList<>();
    final List<String> wrong = new ArrayList<>();
    MindPost x = new MindPost();

    void says(String sentence) {
        sentences.add(sentence);
    }

    void due(String call, long want) {
        due(call, answer(call), want);
    }

    void due(String what, long got, long want) {
        if (got != want) {
            wrong.add(what + " answered " + got + ", due is " + want);
        }
    }

    /** One call for each answer, with 0, 1, 2 .. in place of %. */
    void row(String call, long... wants) {
        for (int i = 0; i < wants.length; i++) {
            due(call.replace("%", String.valueOf(i)), wants[i]);
        }
    }

    /** A refused call answers by its code and changes nothing. */
    void refused(String call, long code) {
        String before = all();
        due(call, code);
        if (!all().equals(before)) {
            wrong.add(call + " was refused, but changed something");
        }
    }

    /** A refused call for each of the numbers, in place of %. */
    void refusedFor(String call, long code, long... numbers) {
        for (long n : numbers) {
            refused(call.replace("%", String.valueOf(n)), code);
        }
    }

    /** A new object, and the text told it. */
    void begin(String text) {
        x = new MindPost();
        due("post of '" + text + "'", Calls.tell(x, text) > 0 ? 1 : 0, 1);
    }

    void tray(int tray, long... numbers) {
        due("numbers(" + tray + ", 3, " + numbers.length + ")", 0);
        for (int i = 0; i < numbers.length; i++) {
            due("write(" + tray + ", " + i + ", " + numbers[i] + ")", numbers[i]);
        }
    }

    long answer(String call) {
        int open = call.indexOf('(');
        String inside = call.substring(open + 1, call.length() - 1).strip();
        String[] parts = inside.isEmpty() ? new String[0] : inside.split(",");
        long[] numbers = new long[parts.length];
        for (int i = 0; i < parts.length; i++) {
            numbers[i] = Long.parseLong(parts[i].strip());
        }
        return Calls.call(x, call.substring(0, open), numbers);
    }

    /** All that can be asked after without a change; more calls than the 512 promised change nothing, either. */
    String all() {
        StringBuilder s = new StringBuilder();
        for (int i = -1; i < 9; i++) {
            s.append(x.count(i)).append(' ').append(x.fault(i)).append(' ');
        }
        for (int p = 0; p < 6; p++) {
            for (int i = 0; i < 6; i++) {
                s.append(x.person(p, i)).append(' ').append(x.letter(p, i)).append(' ');
                s.append(x.cares(p, i)).append(' ').append(x.minds(p, i)).append(' ');
                s.append(x.would(p, i)).append(' ');
            }
        }
        for (int t = 0; t < 4; t++) {
            for (int i = 0; i < 4; i++) {
                s.append(x.judge(t, i)).append(' ').append(x.seen(t, i, i)).append(' ');
            }
        }
        return s.toString();
    }
}
