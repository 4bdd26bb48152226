/** Promise by promise: ordinary inputs, the edges that the document names, and wrong inputs. */
public final class PromiseTest {
    /** Three ways to person 0: 1, 3, 0 and 2, 3, 0; to others nobody minds. */
    private static final String KIN = "places 4;person at 0 home 3;person at 1 mood 2 away 3;"
        + "person at 1 home 2 family 1 away 4;person at 2 family 1;person at 3 home 0;cares 1 for 0 5;"
        + "cares 2 for 0 7;cares 3 for 0 2;cares 4 for 0 1;sends : if kin = 1 then own else home end;day 3;";
    /** Everybody minds everybody and sends to the next place. */
    private static final String LINE = "places 5;person at 0;person at 1;person at 2;person at 3;person at 4;"
        + "minds : 1;sends : at + 1;";
    /** To person 3: a ring of 0 and 1, 2 keeps its letters, 4 has nobody, 5 sends to 3. */
    private static final String RING = "places 6;person at 0;person at 1;person at 2;person at 3;person at 5;"
        + "minds : 1;sends : if at < 2 then 1 - at else if at = 5 then 3 else at end end;";

    private static int wrong = 0;
    private static int promise = 0;
    private static MindPost x = new MindPost();

    private static void due(String call, long got, long want) {
        if (got != want) {
            wrong++;
            System.out.println("promise " + promise + ": " + call + " answered " + got + ", due is " + want);
        }
    }

    private static void begin(int number, String text) {
        promise = number;
        x = new MindPost();
        if (!text.isEmpty()) {
            due("post", Calls.tell(x, text) > 0 ? 1 : 0, 1);
        }
    }

    private static void tray(int tray, long... numbers) {
        x.numbers(tray, 3, numbers.length);
        for (int i = 0; i < numbers.length; i++) {
            x.write(tray, i, numbers[i]);
        }
    }

    private static void textFault(String text, int kind, int place) {
        due("post of '" + text + "'", Calls.tell(x, text), -30 - kind);
        due("fault(0) of '" + text + "'", x.fault(0), kind);
        due("fault(1) of '" + text + "'", x.fault(1), place);
    }

    private static int mindsBy(String law) {
        MindPost y = new MindPost();
        Calls.tell(y, "places 3;person at 1 family 4 mood 6;person at 2 home 0;person at 0 family 4;"
            + "cares 0 for 2 3;minds : " + law + ";");
        return y.minds(0, 2);
    }

    private static int wouldBy(String law) {
        MindPost y = new MindPost();
        Calls.tell(y, "places 6;person at 4 home 1 mood 3;person at 2 home 5;sends : " + law + ";");
        return y.would(0, 1);
    }

    public static void main(String[] args) {
        newObject();
        tapeAndText();
        faults();
        laws();
        people();
        letters();
        deeds();
        undoing();
        trayDeeds();
        years();
        ways();
        waysOfAll();
        remedies();
        sights();
        meetings();
        chances();
        trays();
        images();
        counts();
        System.out.println(wrong == 0 ? "all promises hold" : wrong + " answers are not as due");
        if (wrong != 0) {
            System.exit(1);
        }
    }

    private static void newObject() {
        begin(1, "");
        due("NONE", MindPost.NONE, -1);
        long[] counts = {2, 0, 0, 0, 0, 0, 0, 0, 0};
        for (int i = 0; i < counts.length; i++) {
            due("count(" + i + ")", x.count(i), counts[i]);
        }
        due("fault(0)", x.fault(0), 0);
        due("fault(1)", x.fault(1), -1);
        due("hub()", x.hub(), 0);
        due("restore(0)", x.restore(0), -5);
        due("perform(0)", x.perform(0), -6);
    }

    private static void tapeAndText() {
        begin(2, "");
        for (int i = 1; i <= 45; i++) {
            due("feed " + i, x.feed(i, 0, -1, 7, 8), 20 * i);
        }
        due("feed full", x.feed(0, 0, 0, 0, 0), -5);
        due("count(7)", x.count(7), 900);

        begin(3, "");
        due("post(1) of nothing", x.post(1), -3);
        due("post(-1)", x.post(-1), -3);
        x.feed(0x706c6163, 0x65732032, 0x3b202020, 0x20202020, 0x20202020);
        due("post(21)", x.post(21), -3);
        due("the tape stays", x.count(7), 20);
        due("post(9)", x.post(9), 1);
        due("the tape is empty", x.count(7), 0);
        due("post(0)", x.post(0), -32);
        due("all stays", x.count(8), 1);
        due("lines", Calls.tell(x, LINE), 8);
        x.mail(0, 1);
        x.days(2);
        textFault("places 3;person at 3;", 3, 19);
        due("letters stay", x.count(2), 1);
        due("undoing stays", x.count(6), 2);
        due("places stay", x.count(0), 5);
        due("day stays", x.count(4), 2);
        due("tape after a fault", x.count(7), 0);
        due("post again", Calls.tell(x, KIN), 12);
        due("no letters", x.count(2), 0);
        due("nothing to undo", x.count(6), 0);
        due("day", x.count(4), 3);
        due("cares", x.count(5), 15);
        due("a bare post", Calls.tell(x, "places 3;person at 1;person at 1;person at 1;"), 4);
        due("day", x.count(4), 0);
        due("cares", x.count(5), 0);
        for (int what = 2; what < 6; what++) {
            due("flags", x.person(2, what), 0);
        }
        due("law", x.would(0, 1), 1);
        due("a text of 900", Calls.tell(x, "places 2;" + "day 1;".repeat(148) + "\n\n "), 149);
    }

    private static void faults() {
        begin(4, "");
        due("fault(2)", x.fault(2), -1);
        due("fault(-1)", x.fault(-1), -1);
        textFault("", 2, 0);
        textFault("  \n", 2, 3);
        textFault("places 2", 2, 8);
        textFault("places 2 ", 2, 9);
        textFault("places;", 2, 6);
        textFault("day 3;", 2, 0);
        textFault("places 1;", 3, 7);
        textFault("places 7;", 3, 7);
        textFault("places 0002;", 1, 7);
        textFault("places 2;places 2;", 2, 9);
        textFault("places 2;;", 2, 9);
        textFault("places 2;\tday 1;", 1, 9);
        textFault("places 2;Day 1;", 1, 9);
        textFault("places 2;days 1;", 2, 9);
        textFault("places 2;z;", 2, 9);
        textFault("places 2;{;", 1, 9);
        textFault("places 2;`;", 1, 9);
        textFault("places 2;day /;", 1, 13);
        textFault("places 2;day 1" + (char) 233 + ";", 1, 14);
        textFault("places 2;day 1234;", 1, 13);
        textFault("places 2;day;", 2, 12);
        textFault("places 2;day 1 2;", 2, 15);
        textFault("places 2;person at 2;", 3, 19);
        textFault("places 2;person at home 1;", 2, 19);
        textFault("places 2;person at 0 home 2;", 3, 26);
        textFault("places 2;person at 0 family 10;", 3, 28);
        textFault("places 2;person at 0 mood 10;", 3, 26);
        textFault("places 2;person at 0 away 11;", 3, 26);
        textFault("places 2;person at 0 at 1;", 2, 21);
        textFault("places 2;cares 0 for 1 2;", 3, 15);
        textFault("places 2;person at 0;person at 0;cares 0 for 0 2;", 3, 45);
        textFault("places 2;person at 0;person at 0;cares 0 for 2 2;", 3, 45);
        textFault("places 2;person at 0;person at 0;cares 0 for 1 10;", 3, 47);
        String six = "places 2;" + "person at 0;".repeat(6);
        due("six people", Calls.tell(x, six), 7);
        due("its fault", x.fault(0), 0);
        due("its place", x.fault(1), -1);
        textFault(six + "person;", 4, 81);
        textFault(six + "persons;", 2, 81);
        String minds = "places 2;minds : ";
        textFault(minds + "at;", 2, 17);
        textFault(minds + "home;", 2, 17);
        textFault(minds + "own;", 2, 17);
        textFault("places 2;sends : cares;", 2, 17);
        textFault("places 2;sends 1;", 2, 15);
        textFault(minds + "- 1;", 2, 17);
        textFault(minds + "1 +;", 2, 20);
        textFault(minds + "1 2;", 2, 19);
        textFault(minds + "(1;", 2, 19);
        textFault(minds + "[1];", 2, 17);
        textFault(minds + "1 = 1;", 2, 19);
        textFault(minds + "not 1;", 2, 17);
        textFault(minds + "if 1 then 2 else 3 end;", 2, 22);
        textFault(minds + "if [1 = 1] = 1 then 2 else 3 end;", 2, 28);
        textFault(minds + "if 1 = 1 then 2 end;", 2, 33);
        textFault(minds + "if 1 = 1 then 2 else 3;", 2, 39);
        textFault(minds + "if (1 = 1) then 2 else 3 end;", 2, 23);
        due("six deep", Calls.tell(x, minds + "((((((1))))));"), 2);
        textFault(minds + "(((((((1)))))));", 4, 23);
        due("six of all", Calls.tell(x, minds + "if not [not [(1) = 1]] and (1 + (1)) = 2 then 1 else 2 end;"), 2);
        textFault(minds + "if not not not not not [1 = 1]", 4, 40);
        textFault(minds + "if not not not not not not 1 = 1", 4, 40);
        due("beside one another", Calls.tell(x, minds + "(1)+".repeat(20) + "1;"), 2);
        due("no blanks", Calls.tell(x, "places2;person at1home0;"), 2);
    }

    private static void laws() {
        begin(7, "");
        due("cares", mindsBy("cares"), 3);
        due("who", mindsBy("who + 7"), 7);
        due("of", mindsBy("of"), 2);
        due("mood", mindsBy("mood"), 6);
        due("kin", mindsBy("kin"), 1);
        due("first times", mindsBy("2 + 3 * 4"), 14);
        due("from the left", mindsBy("9 - 3 - 2"), 4);
        due("brackets", mindsBy("9 - (3 - 2)"), 8);
        due("below", mindsBy("1 - 5"), -4);
        due("most", mindsBy("999 * 999 + 1 * 999 + 999 + 999"), 1000000);
        due("kept at once", mindsBy("999 * 999 * 2 - 999 * 999 * 2"), 0);
        due("kept at most", mindsBy("999 * 999 * 2 - 1"), 999999);
        due("kept at least", mindsBy("(0 - 999) * 999 * 999 + 1"), -999999);
        due("if", mindsBy("if cares = 3 then 1 else 2 end"), 1);
        due("else", mindsBy("if cares < 3 then 1 else 2 end"), 2);
        due("more", mindsBy("if cares > 2 then 1 else 2 end"), 1);
        due("not more", mindsBy("if cares > 3 then 1 else 2 end"), 2);
        due("not the same", mindsBy("if cares = 4 then 1 else 2 end"), 2);
        due("less", mindsBy("if cares < 4 then 1 else 2 end"), 1);
        due("and first", mindsBy("if 1 = 1 or 1 = 1 and 1 = 2 then 1 else 2 end"), 1);
        due("square", mindsBy("if [1 = 1 or 1 = 1] and 1 = 2 then 1 else 2 end"), 2);
        due("not", mindsBy("if not 1 = 2 and 1 = 1 then 1 else 2 end"), 1);
        due("not of all", mindsBy("if not [1 = 2 and 1 = 1] then 1 else 2 end"), 1);
        due("if within", mindsBy("2 * if kin = 1 then if mood = 6 then 5 else 6 end else 7 end + 1"), 11);
        due("deepest row", mindsBy("1+1*if 1=2 or 1=1 and 1<1+1*if 1=2 or 1=1 and 1<1+1*if 1=2 or 1=1 and 1<1+1*"
            + "if 1=2 or 1=1 and 1<1+1*if 1=2 or 1=1 and 1<1+1*if 1=2 or 1=1 and 1<2 then 1 else 0 end then 1 else 0 "
            + "end then 1 else 0 end then 1 else 0 end then 1 else 0 end then 5 else 0 end"), 6);
        begin(7, "places 2;person at 0;person at 0;cares 0 for 1 4;minds : 1;minds : cares + 1;");
        due("later law", x.minds(0, 1), 5);
        x.arouse(0, 1);
        due("aroused", x.minds(0, 1), 6);
        due("both one", x.minds(0, 0), -99000002);
        due("none such", x.minds(0, 2), -99000002);
        due("none such", x.minds(-1, 0), -99000002);
        begin(7, KIN);
        due("without a law", x.minds(2, 0), 7);

        begin(8, "");
        due("at", wouldBy("at"), 4);
        due("home", wouldBy("home"), 5);
        due("own", wouldBy("own"), 1);
        due("mood", wouldBy("mood"), 3);
        due("kin", wouldBy("kin"), 1);
        due("of", wouldBy("of"), 1);
        due("who", wouldBy("who"), 0);
        due("modulo", wouldBy("20"), 2);
        due("below 0", wouldBy("0 - 1"), 5);
        due("far below 0", wouldBy("0 - 12"), 0);
        begin(8, "places 3;person at 0 home 2;person at 1;");
        due("without a law", x.would(1, 0), 2);
        due("without a law", x.would(0, 1), 1);
        due("both one", x.would(1, 1), -2);
        due("none such", x.would(2, 1), -2);
        begin(8, LINE);
        due("where it is", x.would(4, 0), 0);
        x.move(4, 2);
        due("where it is then", x.would(4, 0), 3);
    }

    private static void people() {
        begin(5, "places 3;person at 1;person at 0 home 2 family 3 mood 4 away 5 home 1 away 10;");
        long[] first = {1, 1, 0, 0, 0, 0};
        long[] second = {0, 1, 3, 4, 10, 0};
        for (int i = 0; i < 6; i++) {
            due("person(0, " + i + ")", x.person(0, i), first[i]);
            due("person(1, " + i + ")", x.person(1, i), second[i]);
        }
        x.mail(1, 0);
        x.mail(0, 0);
        x.mail(1, 2);
        due("letters", x.person(1, 5), 5);
        due("none such", x.person(2, 0), -2);
        due("none such", x.person(-1, 0), -2);
        due("what", x.person(0, 6), -2);
        due("what", x.person(0, -1), -2);
        x.move(1, 2);
        due("moved", x.person(1, 0), 2);
        due("home stays", x.person(1, 1), 1);

        begin(6, "places 2;person at 0;person at 0;cares 0 for 1 4;cares 1 for 0 9;cares 0 for 1 2;");
        due("later strikes", x.cares(0, 1), 2);
        due("other", x.cares(1, 0), 9);
        due("itself", x.cares(1, 1), 0);
        due("none such", x.cares(0, 2), -2);
        due("none such", x.cares(-1, 0), -2);
    }

    private static void letters() {
        begin(9, KIN);
        due("mail", x.mail(0, 1), 0);
        due("mail", x.mail(3, 0), 1);
        due("mail", x.mail(0, 0), 2);
        due("place", x.letter(0, 0), 1);
        due("to", x.letter(1, 1), 3);
        due("not given", x.letter(0, 2), 0);
        due("given", x.letter(2, 2), 1);
        due("next", x.letter(0, 4), 2);
        due("nobody", x.letter(1, 4), -1);
        due("given: nobody", x.letter(2, 4), -1);
        due("days", x.days(1), 0);
        due("place", x.letter(0, 0), 3);
        due("since", x.letter(0, 3), 1);
        due("days", x.days(5), 1);
        due("since, given", x.letter(0, 3), 2);
        due("since, given at once", x.letter(2, 3), 0);
        due("since, not given", x.letter(1, 3), 6);
        due("none such", x.letter(3, 0), -2);
        due("none such", x.letter(-1, 0), -2);
        due("what", x.letter(0, 5), -2);
        due("what", x.letter(0, -1), -2);
        x.move(0, 2);
        due("given for good", x.letter(0, 2), 1);
        due("stays where given", x.letter(0, 0), 0);
        begin(9, RING);
        x.mail(3, 2);
        due("to the same place, too", x.letter(0, 4), 2);
    }

    private static void deeds() {
        begin(10, KIN);
        due("person", x.mail(5, 0), -11);
        due("place", x.mail(0, 4), -11);
        due("place", x.mail(0, -1), -11);
        for (int i = 0; i < 6; i++) {
            due("mail", x.mail(0, i % 4), i);
        }
        due("six", x.mail(0, 0), -12);
        due("person first", x.mail(-1, 0), -11);
        due("refused can't be undone", x.count(6), 6);

        begin(11, KIN);
        x.mail(1, 2);
        x.mail(1, 2);
        x.mail(1, 3);
        due("two", x.move(1, 2), 2);
        due("there", x.move(1, 2), -12);
        due("person", x.move(5, 0), -11);
        due("place", x.move(1, 4), -11);
        due("place", x.move(1, -1), -11);
        due("back", x.move(1, 1), 0);
        due("given stay given", x.count(3), 3);
        due("again", x.move(1, 2), 0);
        due("third", x.move(1, 3), 1);

        begin(12, KIN);
        due("from 0", x.arouse(0, 1), 1);
        due("from 7", x.arouse(2, 0), 8);
        due("from 8", x.arouse(2, 0), 9);
        due("9", x.arouse(2, 0), -12);
        due("both one", x.arouse(2, 2), -11);
        due("person", x.arouse(5, 0), -11);
        due("person", x.arouse(0, 5), -11);
        due("cares", x.cares(2, 0), 9);

        begin(13, KIN);
        due("was", x.mood(1, 9), 2);
        due("was", x.mood(1, 9), 9);
        due("mood", x.person(1, 3), 9);
        due("mood", x.mood(1, 10), -11);
        due("mood", x.mood(1, -1), -11);
        due("person", x.mood(5, 0), -11);
        due("both can be undone", x.undo(2), 0);
        due("undone", x.person(1, 3), 2);

        begin(14, LINE);
        x.mail(4, 0);
        x.mail(3, 0);
        x.mail(2, 3);
        due("0", x.days(0), -3);
        due("100", x.days(100), -3);
        due("three", x.days(3), 1);
        due("place", x.letter(0, 0), 3);
        due("round", x.letter(2, 0), 1);
        due("one", x.days(1), 2);
        due("day", x.count(4), 4);
        due("99", x.days(99), 0);
        due("day", x.count(4), 103);
        begin(14, "places 3;person at 0;person at 0;person at 0 home 2;cares 0 for 2 3;cares 1 for 2 3;"
            + "sends : who + 1;");
        x.mail(2, 0);
        due("at once", x.count(3), 1);
        x.move(2, 2);
        x.mail(2, 0);
        due("like ones: the first", x.letter(1, 4), 0);
        x.arouse(1, 2);
        due("most", x.letter(1, 4), 1);
        due("sent there", x.days(1), 1);
    }

    private static void undoing() {
        begin(15, KIN);
        due("nothing", x.undo(1), -3);
        for (int i = 0; i < 12; i++) {
            x.mood(0, i % 10);
        }
        due("ten at most", x.count(6), 10);
        due("0", x.undo(0), -3);
        due("11", x.undo(11), -3);
        due("three", x.undo(3), 7);
        due("as it was", x.person(0, 3), 8);
        due("more than can be", x.undo(8), -3);
        due("seven", x.undo(7), 0);
        due("eldest are forgotten", x.person(0, 3), 1);
        x.mail(0, 1);
        x.arouse(1, 2);
        x.move(4, 1);
        x.days(7);
        due("day", x.count(4), 10);
        due("undo days", x.undo(1), 3);
        due("day", x.count(4), 3);
        due("letter", x.letter(0, 0), 1);
        due("undo move", x.undo(1), 2);
        due("place", x.person(4, 0), 3);
        due("undo all", x.undo(2), 0);
        due("cares", x.cares(1, 2), 0);
        due("letters", x.count(2), 0);
    }

    private static void trayDeeds() {
        begin(16, KIN);
        tray(0, 1, 201, -1, 112, 325, -1);
        due("none", x.judge(0, 0), -1);
        due("why", x.judge(0, 1), 0);
        tray(0, 1, 12, 0, 103, -1);
        due("none", x.judge(0, 0), -1);
        due("given: to 0 at 0, and at 3 where 0 comes to be", x.judge(0, 2), 5);
        due("lying", x.judge(0, 3), 4);
        due("nothing is done", x.count(2), 0);
        tray(0, 1, -1, 100, 7);
        due("there", x.judge(0, 0), 2);
        due("why", x.judge(0, 1), 2);
        due("till then", x.judge(0, 3), 8);
        tray(0, -1, 4);
        due("no such place", x.judge(0, 0), 1);
        due("why", x.judge(0, 1), 1);
        long[] never = {400, -2, 50, 150, 211, 260, 350, 4294967295L, 1L << 32};
        for (long v : never) {
            tray(1, v);
            due("judge of " + v, x.judge(1, 1), 1);
        }
        tray(1, 209);
        due("for nobody", x.judge(1, 1), 1);
        tray(1, 309);
        due("mood 9", x.judge(1, 1), 0);
        tray(2);
        due("empty", x.judge(2, 0), -1);
        x.numbers(1, 0, 1);
        x.write(1, 0, 200);
        due("cut to 8 bits", x.judge(1, 1), 1);
        due("tray", x.judge(4, 0), -2);
        due("tray", x.judge(-1, 0), -2);
        due("what", x.judge(0, 4), -2);
        due("what, ahead of missing", x.judge(3, 4), -2);
        due("missing", x.judge(3, 0), -6);

        begin(17, KIN);
        tray(0, 1, 201, -1, 112, 325, 100, 1);
        due("till one can't be", x.perform(0), 5);
        due("letters", x.count(2), 1);
        due("place", x.letter(0, 0), 3);
        due("cares", x.count(5), 16);
        due("moved", x.person(1, 0), 2);
        due("mood", x.person(2, 3), 5);
        due("one call", x.count(6), 1);
        tray(1, 100, -1);
        due("none", x.perform(1), 0);
        due("nothing to undo", x.count(6), 1);
        tray(1);
        due("empty", x.perform(1), 0);
        due("undone as a whole", x.undo(1), 0);
        due("letters", x.count(2), 0);
        due("moved back", x.person(1, 0), 1);
        due("day", x.count(4), 3);
        due("tray", x.perform(4), -2);
        due("tray", x.perform(-1), -2);
        due("missing", x.perform(3), -6);
    }

    private static void years() {
        begin(18, KIN);
        due("0", x.year(1, 0), -3);
        due("41", x.year(1, 41), -3);
        for (int seed = -200; seed < 200; seed++) {
            oneYear(seed, 1 + (seed + 200) % 40);
        }
    }

    /** A year is told a second time, by single calls. */
    private static void oneYear(int seed, int times) {
        begin(18, KIN);
        MindPost y = new MindPost();
        Calls.tell(y, KIN);
        int[] draw = {seed};
        int could = 0;
        for (int i = 0; i < times; i++) {
            int kind = next(draw, 6);
            if (kind < 2) {
                y.days(1);
                could++;
            } else {
                int a = next(draw, 6);
                int b = next(draw, kind == 5 ? 10 : 6);
                int got = kind == 2 ? y.mail(a, b)
                    : kind == 3 ? y.move(a, b) : kind == 4 ? y.arouse(a, b) : y.mood(a, b);
                could += got < 0 ? 0 : 1;
            }
        }
        due("year(" + seed + ", " + times + ")", x.year(seed, times), could);
        due("one call", x.count(6), could > 0 ? 1 : 0);
        for (int i = 0; i < 6; i++) {
            due("count(" + i + ")", x.count(i), y.count(i));
            for (int what = 0; what < 6; what++) {
                due("person", x.person(i, what), y.person(i, what));
                due("letter", x.letter(i, what), y.letter(i, what));
            }
        }
    }

    private static int next(int[] draw, int kinds) {
        draw[0] = 1103515245 * draw[0] + 12345;
        return (draw[0] >>> 16) % kinds;
    }

    private static void ways() {
        begin(19, LINE);
        for (int n = 0; n < 10; n++) {
            due("lies", x.lies(4, 1, n), Math.min(4, 1 + n));
        }
        due("for ever", x.lies(4, 1, 99999), 4);
        due("n", x.lies(4, 1, 100000), -3);
        due("n", x.lies(4, 1, -1), -3);
        due("person", x.lies(5, 1, -1), -2);
        due("place", x.lies(4, 5, 0), -2);
        due("place", x.lies(4, -1, 0), -2);
        begin(19, RING);
        for (int n = 0; n < 200; n++) {
            due("round", x.lies(3, 0, n), n % 2);
        }
        due("round", x.lies(3, 0, 99999), 1);
        due("round", x.lies(3, 1, 99998), 1);
        begin(19, "places 6;person at 0;person at 1;person at 2;person at 3;person at 4;person at 5;minds : 1;"
            + "sends : if at = 4 then 0 else at + 1 end;");
        for (int n = 0; n < 99999; n += 997) {
            due("round five", x.lies(5, 2, n), (2 + n) % 5);
        }

        begin(20, KIN);
        due("comes", x.comes(0, 1), 2);
        due("comes", x.comes(0, 3), 1);
        due("there", x.comes(0, 0), 0);
        due("never", x.comes(1, 0), -1);
        due("person", x.comes(5, 0), -2);
        due("place", x.comes(0, 4), -2);
        begin(20, LINE);
        due("far", x.comes(4, 0), 4);
        due("round the end", x.comes(2, 3), 4);

        begin(21, RING);
        long[][] ends = {{2, 2, 0, 0}, {2, 2, 0, 1}, {1, 1, 0, 2}, {0, 1, 0, 3}, {1, 1, 0, 4}, {0, 1, 1, 3}};
        for (int place = 0; place < 6; place++) {
            for (int what = 0; what < 4; what++) {
                due("ends(3, " + place + ", " + what + ")", x.ends(3, place, what), ends[place][what]);
            }
        }
        due("what", x.ends(3, 0, 4), -2);
        due("what", x.ends(3, 0, -1), -2);
        due("person", x.ends(5, 0, 0), -2);
        due("place", x.ends(3, 6, 0), -2);
        begin(21, "places 6;person at 0;person at 1;person at 2;person at 3;person at 4;person at 5;minds : 1;"
            + "sends : if at = 4 then 2 else at + 1 end;");
        long[] tail = {2, 3, 2, 2};
        for (int what = 0; what < 4; what++) {
            due("into the ring", x.ends(5, 0, what), tail[what]);
        }

        begin(22, KIN);
        due("hands", x.hands(0, 1), 20);
        due("hands", x.hands(0, 2), 24);
        due("none", x.hands(0, 0), 0);
        due("person", x.hands(5, 0), -2);
        due("place", x.hands(0, 4), -2);
        begin(22, RING);
        due("round", x.hands(3, 0), 3);
        due("kept is not sent", x.hands(3, 2), 0);
        due("sent", x.hands(3, 5), 16);
    }

    private static void waysOfAll() {
        begin(23, RING);
        due("sources", x.sources(3), 8 + 32);
        due("person", x.sources(5), -2);
        due("person", x.sources(-1), -2);

        begin(24, KIN);
        due("soonest", x.soonest(0), 3);
        due("none", x.soonest(1), -1);
        due("person", x.soonest(5), -2);
        begin(24, "places 4;person at 3;person at 0;person at 1;person at 2;minds : 1;sends : 3;");
        due("the first", x.soonest(0), 0);

        begin(25, RING);
        due("one", x.rings(3), 1);
        due("person", x.rings(5), -2);
        begin(25, "places 6;person at 0;person at 1;person at 2;person at 3;person at 4;person at 5;minds : 1;"
            + "sends : if at = 1 or at = 3 then at - 1 else at + 1 end;");
        due("two", x.rings(4), 2);
        due("none", x.rings(0) , 1);

        begin(26, RING);
        due("lie", x.offices(3), 4 + 16);
        due("person", x.offices(5), -2);

        begin(27, KIN);
        due("needed", x.needed(0, 1), 20);
        due("there", x.needed(0, 0), 0);
        due("never", x.needed(1, 0), 0);
        due("person", x.needed(5, 0), -2);
        due("place", x.needed(0, 4), -2);
        begin(27, "places 3;person at 2;person at 0;person at 0;cares 1 for 0 3;cares 2 for 0 2;");
        due("another one would", x.needed(0, 0), 0);
    }

    private static void remedies() {
        begin(28, "places 3;person at 2;person at 1;person at 1;person at 0;cares 1 for 0 2;cares 2 for 0 2;"
            + "cares 3 for 0 1;sends : if who = 3 then 0 else 2 end;");
        due("one", x.moves(0, 0, 0), 1);
        long[] then = {2, 0, 1, 0};
        for (int q = 0; q < 4; q++) {
            due("moves(0, 0, 1" + q + ")", x.moves(0, 0, 10 + q), then[q]);
        }
        due("none needed", x.moves(0, 1, 0), 0);
        due("where they are", x.moves(0, 1, 12), 1);
        due("nobody minds", x.moves(1, 0, 0), -1);
        due("nobody minds", x.moves(1, 0, 11), -1);
        due("what", x.moves(0, 0, 1), -2);
        due("what", x.moves(0, 0, 14), -2);
        due("what", x.moves(0, 0, 9), -2);
        due("what", x.moves(1, 0, -1), -2);
        due("person", x.moves(4, 0, 0), -2);
        due("place", x.moves(0, 3, 0), -2);
        due("nothing is moved", x.person(1, 0), 1);
        begin(28, "places 4;person at 3;person at 3;person at 3;person at 3;minds : 1;sends : at + 1;");
        due("three", x.moves(0, 0, 0), 3);
        due("first by places", x.moves(0, 0, 11), 0);
        due("first by places", x.moves(0, 0, 12), 1);
        due("first by places", x.moves(0, 0, 13), 2);
        begin(28, "places 3;person at 2;person at 0;person at 0;cares 1 for 0 5;cares 2 for 0 1;"
            + "sends : if who = 2 then 2 else 0 end;");
        due("who is in the way goes", x.moves(0, 0, 0), 1);
        due("away, the first", x.moves(0, 0, 11), 1);
        due("the other stays", x.moves(0, 0, 12), 0);

        begin(29, KIN);
        due("none needed", x.feeling(0, 1, 0), 0);
        due("nor of any", x.feeling(0, 1, 12), 0);
        due("what", x.feeling(0, 1, 15), -2);
        due("what", x.feeling(0, 1, 1), -2);
        due("person", x.feeling(5, 1, 0), -2);
        due("place", x.feeling(0, 4, 0), -2);
        begin(29, "places 3;person at 2;person at 0;person at 0;cares 1 for 0 5;cares 2 for 0 1;"
            + "sends : if who = 2 then 2 else 0 end;");
        due("more than another one", x.feeling(0, 0, 0), 5);
        due("of that one", x.feeling(0, 0, 12), 5);
        due("itself", x.feeling(0, 0, 10), 0);
        due("of the other one", x.feeling(0, 0, 11), 0);
        due("nothing is aroused", x.cares(2, 0), 1);
        begin(29, "places 2;person at 0;person at 1;person at 0;minds : if cares = 9 then 1 else 0 end;sends : 1;");
        due("nine", x.feeling(1, 0, 0), 9);
        due("less for person 0 first", x.feeling(1, 0, 10), 0);
        due("so 2 is", x.feeling(1, 0, 12), 9);
        begin(29, "places 3;person at 0;person at 1;person at 2;cares 0 for 2 9;minds : cares - 9;sends : 2;");
        due("9 is the most", x.feeling(2, 0, 0), -1);
        due("none", x.feeling(2, 0, 12), -1);
        begin(29, "places 3;person at 0;person at 1;person at 2;minds : cares - 4;sends : at + 1;");
        due("ten together", x.feeling(2, 0, 0), -1);
        x.arouse(1, 2);
        due("nine together", x.feeling(2, 0, 0), 9);
        due("five", x.feeling(2, 0, 10), 5);
        due("four", x.feeling(2, 0, 11), 4);

        begin(30, KIN);
        due("found", x.found(0), 0);
        due("person", x.found(5), -2);
        begin(30, "places 4;person at 0;person at 1;person at 2;person at 3;minds : 1;sends : 2;");
        due("where all goes", x.found(0), 2);
        due("of like ones the first", x.found(3), 2);
        due("where it is, too", x.found(2), 2);
        begin(31, "places 4;person at 0;person at 1;person at 2;person at 3;minds : 1;sends : 2;");
        due("hides", x.hides(0), 0);
        due("hides", x.hides(2), 0);
        due("person", x.hides(5), -2);
        begin(31, "places 3;person at 0;person at 0;cares 1 for 0 1;sends : 1;");
        due("not where it is sent", x.hides(0), 0);
        begin(31, "places 3;person at 0;person at 1;person at 2;minds : 1;sends : 0;");
        due("not the first", x.hides(0), 1);
    }

    private static void sights() {
        begin(32, KIN);
        tray(0, 1, 3, 0);
        due("seen", x.seen(0, 0, 1), 5);
        tray(0, 1, -1, 3);
        due("not seen", x.seen(0, 0, 1), 8);
        tray(0, -1);
        due("anywhere", x.seen(0, 0, 1), 15);
        tray(0, 2);
        due("nowhere", x.seen(0, 0, 1), 0);
        tray(0, -1, -1, -1, -1, -1, -1, -1, -1, -1, -1, -1, 0);
        due("twelve", x.seen(0, 0, 1), 5);
        due("tray", x.seen(4, 0, 1), -2);
        due("person", x.seen(0, 5, 1), -2);
        due("place", x.seen(0, 0, 4), -2);
        due("person, ahead of missing", x.seen(3, 5, 1), -2);
        due("missing", x.seen(3, 0, 1), -6);
        tray(1);
        due("no numbers", x.seen(1, 0, 1), -4);
        tray(1, 0, 0, 0, 0, 0, 0, 0, 0, 0, 0, 0, 0, 9);
        due("thirteen, ahead of no place", x.seen(1, 0, 1), -4);
        tray(1, 1, 4);
        due("no place", x.seen(1, 0, 1), -3);
        tray(1, 1, -2);
        due("no place", x.seen(1, 0, 1), -3);

        begin(33, KIN);
        tray(0, 1, 3, 0);
        due("probe", x.probe(0, 0, 1, 1), 2);
        tray(0, 2);
        due("nowhere", x.probe(0, 0, 1, 1), -1);
        due("0, ahead of nowhere", x.probe(0, 0, 1, 0), -3);
        due("10", x.probe(0, 0, 1, 10), -3);
        due("9", x.probe(0, 0, 1, 9), -1);
        due("tray", x.probe(-1, 0, 1, 1), -2);
        due("person", x.probe(0, -1, 1, 1), -2);
        due("place", x.probe(0, 0, -1, 1), -2);
        due("missing, ahead of n", x.probe(3, 0, 1, 0), -6);
        tray(1);
        due("no numbers, ahead of n", x.probe(1, 0, 1, 0), -4);
        tray(1, 9);
        due("no place", x.probe(1, 0, 1, 1), -3);
        begin(33, LINE);
        tray(0, -1);
        // At 0 nobody else is, so that it stays there; from 1 on it goes by all places till it finds person 0.
        due("the first of like ones", x.probe(0, 0, 1, 9), 1);
        due("in one day", x.probe(0, 0, 4, 1), 1);

        begin(34, KIN);
        tray(0, 1, 1);
        due("who keeps it", x.heart(0, 0, 1, 1), 896);
        due("who doesn't", x.heart(0, 0, 1, 2), 63);
        due("another one", x.heart(0, 0, 1, 3), 0);
        tray(0, 1, 3, 0);
        due("as it is, too", x.heart(0, 0, 1, 2), 960);
        due("both one", x.heart(0, 0, 1, 0), -2);
        due("tray", x.heart(4, 0, 1, 1), -2);
        due("person", x.heart(0, 5, 1, 1), -2);
        due("person", x.heart(0, 0, 1, 5), -2);
        due("place", x.heart(0, 0, 4, 1), -2);
        due("missing", x.heart(3, 0, 1, 1), -6);
        tray(1);
        due("no numbers", x.heart(1, 0, 1, 1), -4);
        tray(1, -2);
        due("no place", x.heart(1, 0, 1, 1), -3);
        due("nothing is changed", x.cares(2, 0), 7);

        begin(35, KIN);
        tray(0, 1, 1);
        due("suspects", x.suspects(0, 0, 1), 6);
        tray(0, 1, 3);
        due("it is so", x.suspects(0, 0, 1), 0);
        tray(0, 2);
        due("nobody could", x.suspects(0, 0, 1), 0);
        due("tray", x.suspects(4, 0, 1), -2);
        due("person", x.suspects(0, 5, 1), -2);
        due("place", x.suspects(0, 0, 4), -2);
        due("missing", x.suspects(3, 0, 1), -6);
        tray(1);
        due("no numbers", x.suspects(1, 0, 1), -4);
        tray(1, 4);
        due("no place", x.suspects(1, 0, 1), -3);
    }

    private static void meetings() {
        begin(36, KIN);
        due("at 3", x.meet(0, 1, 0, 2), 1);
        due("where it is", x.meet(0, 0, 0, 1), 2);
        due("at once", x.meet(0, 1, 4, 1), 0);
        due("never", x.meet(0, 1, 1, 2), -1);
        due("person", x.meet(5, 0, 0, 0), -2);
        due("person", x.meet(0, 0, 5, 0), -2);
        due("place", x.meet(0, 4, 0, 0), -2);
        due("place", x.meet(0, 0, 0, -1), -2);
        begin(36, LINE);
        due("the one waits", x.meet(4, 0, 0, 0), 0);
        due("the one waits", x.meet(2, 0, 4, 0), 0);
        due("round", x.meet(2, 1, 1, 4), -1);
        due("the other comes", x.meet(3, 3, 4, 0), 3);

        begin(37, KIN);
        due("hub", x.hub(), 1);
        due("hub again", x.hub(), 1);
        begin(37, "places 3;person at 2;person at 2;person at 1;");
        due("most", x.hub(), 2);
        begin(37, "places 3;person at 1;person at 2;");
        due("the first", x.hub(), 1);
    }

    private static void chances() {
        begin(38, KIN);
        due("above", x.chance(0, 1, 2, 0), 3);
        due("below", x.chance(0, 1, 2, 1), 5);
        due("above", x.chance(0, 1, 3, 0), 21);
        due("below", x.chance(0, 1, 3, 1), 25);
        due("never: above", x.chance(1, 0, 9, 0), 0);
        due("never: below", x.chance(1, 0, 9, 1), 1);
        due("there", x.chance(0, 0, 0, 0), 1);
        due("there", x.chance(0, 0, 15, 1), 1);
        due("n", x.chance(0, 1, 16, 0), -3);
        due("n", x.chance(0, 1, -1, 0), -3);
        due("what", x.chance(0, 1, 0, 2), -2);
        due("what, ahead of n", x.chance(0, 1, 16, -1), -2);
        due("person", x.chance(5, 0, 0, 0), -2);
        due("place", x.chance(0, 4, 0, 0), -2);
        begin(38, "places 2;person at 1;person at 0 away 9;cares 1 for 0 1;");
        due("fifteen days", x.chance(0, 0, 15, 0), 1000000000000000L - 205891132094649L);
        due("fifteen days", x.chance(0, 0, 15, 1), 1000000000000000L);
        begin(38, "places 3;person at 2;person at 0 away 4;person at 0 away 9;person at 0;cares 1 for 0 3;"
            + "cares 2 for 0 2;cares 3 for 0 1;sends : if who = 2 then 1 else 2 end;");
        due("the next one, never away", x.chance(0, 0, 9, 0), 3);
        due("the next one, never away", x.chance(0, 0, 9, 1), 5);

        begin(39, KIN);
        due("80", x.likely(0, 1, 80), 3);
        due("84", x.likely(0, 1, 84), 3);
        due("85", x.likely(0, 1, 85), 4);
        due("0", x.likely(1, 0, 0), 0);
        due("never", x.likely(1, 0, 1), -1);
        due("100", x.likely(0, 3, 100), 1);
        due("never sure", x.likely(0, 1, 100), -1);
        due("m", x.likely(0, 1, 101), -3);
        due("m", x.likely(0, 1, -1), -3);
        due("person", x.likely(5, 1, 101), -2);
        due("place", x.likely(0, 4, 0), -2);
        begin(39, "places 2;person at 1;person at 0 away 9;cares 1 for 0 1;");
        due("79 in fifteen", x.likely(0, 0, 79), 15);
        due("80 in more", x.likely(0, 0, 80), -1);

        begin(40, KIN);
        due("one day", x.surest(0, 1), 3);
        due("no day", x.surest(0, 0), -1);
        due("never", x.surest(1, 15), -1);
        due("n", x.surest(0, 16), -3);
        due("n", x.surest(0, -1), -3);
        due("person", x.surest(5, 16), -2);
        begin(40, "places 4;person at 3;person at 0 away 5;person at 1 away 2;person at 2 away 2;minds : 1;");
        due("greatest, the first", x.surest(0, 4), 1);
    }

    private static void trays() {
        begin(41, KIN);
        due("numbers", x.numbers(0, 0, 40), 0);
        due("sort", x.numbers(0, 4, 1), -2);
        due("sort", x.numbers(0, -1, 1), -2);
        due("tray", x.numbers(4, 0, 1), -2);
        due("tray", x.numbers(-1, 0, 41), -2);
        due("41", x.numbers(0, 0, 41), -3);
        due("below 0", x.numbers(0, 0, -1), -3);
        due("the tray stays", x.write(0, 39, 5), 5);
        tray(0, 1, 1);
        due("numbers", x.numbers(0, 3, 2), 0);
        x.write(0, 0, -1);
        due("all 0: a letter to 0 at 0", x.judge(0, 2), 1);
        due("none", x.numbers(0, 2, 0), 0);
        due("no such", x.write(0, 0, 1), -7);

        begin(42, KIN);
        long v = 0x123456789abcdef0L;
        long[] cut = {(byte) 0xf0, (short) 0xdef0, 0x9abcdef0, v};
        for (int sort = 0; sort < 4; sort++) {
            x.numbers(sort, sort, 2);
            due("sort " + sort, x.write(sort, 1, v), cut[sort]);
            due("sort " + sort, x.write(sort, 0, -1), -1);
        }
        due("8 bits", x.write(0, 0, 127), 127);
        due("8 bits", x.write(0, 0, 128), -128);
        due("16 bits", x.write(1, 0, 32768), -32768);
        due("32 bits", x.write(2, 0, 1L << 31), -1L << 31);
        due("i", x.write(0, 2, 0), -7);
        due("i", x.write(0, -1, 0), -7);
        due("tray", x.write(4, 0, 0), -2);
        due("tray", x.write(-1, 0, 0), -2);
        due("missing", new MindPost().write(0, 0, 0), -6);

        begin(43, KIN);
        x.numbers(0, 0, 4);
        due("lists", x.lists(0, 0, 1), 4);
        due("as listed", x.seen(0, 0, 1), 5);
        due("so it went", x.judge(0, 0), -1);
        x.numbers(1, 3, 0);
        due("no places", x.lists(1, 0, 1), 0);
        due("tray", x.lists(4, 0, 1), -2);
        due("person", x.lists(0, 5, 1), -2);
        due("place", x.lists(0, 0, 4), -2);
        due("place, ahead of missing", x.lists(3, 0, 4), -2);
        due("missing", x.lists(3, 0, 1), -6);
        x.numbers(2, 1, 40);
        due("forty", x.lists(2, 0, 1), 40);
    }

    private static void images() {
        begin(44, KIN);
        due("image", x.image(0), 0);
        due("image", x.image(1), 0);
        due("image", x.image(0), 0);
        due("none such", x.image(2), -2);
        due("none such", x.image(-1), -2);
        x.mood(0, 4);
        x.image(0);
        due("undoing stays", x.undo(1), 0);
        x.mood(0, 5);
        x.restore(0);
        due("the latest one", x.person(0, 3), 4);

        begin(45, KIN);
        due("none was made", x.restore(0), -5);
        due("none such", x.restore(2), -2);
        due("none such", x.restore(-1), -2);
        x.mail(0, 1);
        x.arouse(1, 0);
        x.image(1);
        x.days(5);
        x.move(0, 2);
        x.numbers(0, 0, 3);
        due("other post", Calls.tell(x, LINE), 8);
        due("made: the other one", x.restore(0), -5);
        due("restore", x.restore(1), 0);
        long[] counts = {4, 5, 1, 0, 3, 16, 0, 0, 12};
        for (int i = 0; i < counts.length; i++) {
            due("count(" + i + ")", x.count(i), counts[i]);
        }
        due("home", x.person(0, 1), 3);
        due("place", x.person(0, 0), 0);
        due("away", x.person(2, 4), 4);
        due("family", x.person(2, 2), 1);
        due("law", x.would(1, 0), 1);
        due("the trays stay", x.write(0, 2, 1), 1);
        due("nothing to undo", x.undo(1), -3);
        due("it goes on", x.days(2), 1);
        due("and back", x.undo(1), 0);
        x.days(1);
        due("again", x.restore(1), 0);
        due("nothing to undo", x.count(6), 0);
        due("of a new object", new MindPost().restore(1), -5);
    }

    private static void counts() {
        begin(46, KIN);
        x.mail(0, 1);
        x.mail(0, 0);
        x.mail(1, 1);
        x.days(4);
        x.feed(0, 0, 0, 0, 0);
        long[] counts = {4, 5, 3, 7, 7, 15, 4, 20, 12};
        for (int i = 0; i < counts.length; i++) {
            due("count(" + i + ")", x.count(i), counts[i]);
        }
        due("count(9)", x.count(9), -1);
        due("count(-1)", x.count(-1), -1);
    }
}
