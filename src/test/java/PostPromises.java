/** Promises 1, 2, 5 to 9: a new object, the tape, people, what they mind, letters. */
final class PostPromises extends Promises {

    // ---- 1: a new object

    void promise01NewObject() {
        says("2 PLACES, no PEOPLE.");
        says("(without one: 2 PLACES, no PEOPLE)");
        due("NONE", MindPost.NONE, -1);
        row("count(%)", 2, 0, 0, 0, 0, 0, 0, 0, 0);
        row("fault(%)", 0, -1);
        refused("person(0, 0)", -2);
        refused("mail(0, 0)", -11);
        due("hub()", 0);
        due("days(99)", 0);
    }

    void promise01StaysWithoutText() {
        says("(without one: 2 PLACES, no PEOPLE)");
        due("a text with a fault", Calls.tell(x, "places 6;person at 0"), -32);
        row("count(%)", 2, 0, 0, 0, 0, 0, 0, 0, 0);
    }

    void promise01TraysMissing() {
        says("TRAYS 0 to 3 are MISSING at first");
        for (int t = 0; t < 4; t++) {
            refused("write(" + t + ", 0, 0)", -6);
            refused("judge(" + t + ", 0)", -6);
            refused("perform(" + t + ")", -6);
        }
        refusedFor("perform(%)", -2, -1, 4);
    }

    void promise01NothingToUndoNorRestore() {
        says("2 PLACES, no PEOPLE.");
        refused("undo(1)", -3);
        row("restore(%)", -5, -5, -2);
    }

    // ---- 2: feed

    void promise02Behind() {
        says("Twenty bytes come behind those on THE TAPE, the highest of each int first: how many it has.");
        // "places 3;person at 2", then ";" and blanks.
        due("feed", x.feed(0x706c6163, 0x65732033, 0x3b706572, 0x736f6e20, 0x61742032), 20);
        due("feed", x.feed(0x3b202020, 0x20202020, 0x20202020, 0x20202020, 0x20202020), 40);
        due("count(7)", 40);
        due("post(21)", 2);
        due("count(0)", 3);
        due("person(0, 0)", 2);
    }

    void promise02EachByteInItsPlace() {
        says("the highest of each int first");
        for (int place = 0; place < 20; place++) {
            int[] ints = {0x20202020, 0x20202020, 0x20202020, 0x20202020, 0x20202020};
            ints[place / 4] |= 0x80 << 24 - place % 4 * 8;
            due("feed", x.feed(ints[0], ints[1], ints[2], ints[3], ints[4]), 20);
            due("post(20)", -31);
            due("fault(1)", place);
        }
    }

    void promise02Full() {
        says("-5: it would have more than 900.");
        for (int i = 1; i <= 45; i++) {
            due("feed " + i, x.feed(0x20202020, 0x20202020, 0x20202020, 0x20202020, 0x20202020), 20 * i);
        }
        refused("feed(0, 0, 0, 0, 0)", -5);
        refused("feed(-1, -1, -1, -1, -1)", -5);
        due("count(7)", 900);
        due("blanks alone, all 900", x.post(900), -32);
        due("fault(1)", 900);
        due("empty again", x.feed(0, 0, 0, 0, 0), 20);
    }

    // ---- 5: person

    void promise05Whats() {
        says("Of a PERSON, what 0: its PLACE, 1: HOME, 2: family, 3: MOOD, 4: away,");
        begin("places 3;person at 1;person at 0 home 2 family 3 mood 4 away 5;");
        row("person(0, %)", 1, 1, 0, 0, 0, 0);
        row("person(1, %)", 0, 2, 3, 4, 5, 0);
        due("move(1, 1)", 0);
        due("mood(1, 9)", 4);
        row("person(1, %)", 1, 2, 3, 9, 5, 0);
    }

    void promise05Letters() {
        says("5: LETTERS to it, as bits.");
        begin("places 3;person at 1;person at 0;");
        due("mail(1, 0)", 0);
        due("given ones, too", x.person(1, 5), 1);
        due("mail(0, 0)", 1);
        due("mail(1, 2)", 2);
        due("person(0, 5)", 2);
        due("person(1, 5)", 5);
        begin("places 3;person at 1;person at 0;");
        for (int i = 0; i < 6; i++) {
            x.mail(1, 2);
        }
        due("person(1, 5)", 63);
        due("person(0, 5)", 0);
    }

    void promise05NoSuch() {
        says("-2.");
        says("-2 there is none such;");
        begin(KIN);
        refusedFor("person(%, 0)", -2, -1, 5, 6, Integer.MIN_VALUE, Integer.MAX_VALUE);
        refusedFor("person(0, %)", -2, -1, 6, 10, Integer.MIN_VALUE, Integer.MAX_VALUE);
        due("person(4, 5)", 0);
        due("person(4, 0)", 3);
    }

    // ---- 6: cares

    void promise06HowMuch() {
        says("How much one CARES for another one (itself: 0).");
        begin("places 2;person at 0;person at 0;person at 0;cares 0 for 1 4;cares 1 for 0 9;");
        row("cares(0, %)", 0, 4, 0);
        row("cares(1, %)", 9, 0, 0);
        row("cares(2, %)", 0, 0, 0);
    }

    void promise06NoSuch() {
        says("-2.");
        begin(KIN);
        refusedFor("cares(0, %)", -2, -1, 5, 6, Integer.MIN_VALUE, Integer.MAX_VALUE);
        refusedFor("cares(%, 0)", -2, -1, 5, 6, Integer.MIN_VALUE, Integer.MAX_VALUE);
        refusedFor("cares(%, %)", -2, -1, 5, 6);
    }

    // ---- 7: minds

    private int mindsBy(String law) {
        begin("places 3;person at 1 family 4 mood 6;person at 2 home 0;person at 0 family 4;"
            + "cares 0 for 2 3;minds : " + law + ";");
        return x.minds(0, 2);
    }

    private void law(String law, int want) {
        due(law, mindsBy(law), want);
    }

    void promise07Words() {
        says("In both laws: who: who would send a letter on, of: to whom it is (their numbers), mood: MOOD of who, "
            + "kin: 1 if both are of one family, else 0; cares: how much who CARES for of;");
        law("who", 0);
        law("of", 2);
        law("mood", 6);
        law("kin", 1);
        law("cares", 3);
        due("who", mindsBy("who * 10 + of") == 2 ? x.minds(2, 1) : -1, 21);
        law("kin", 1);
        due("of another family", x.minds(0, 1), 0);
        law("mood", 6);
        due("mood of who, not of of", x.minds(2, 0), 0);
        law("cares", 3);
        due("not the other way", x.minds(2, 0), 0);
    }

    void promise07KinByNumber() {
        says("kin: 1 if both are of one family, else 0;");
        begin("places 2;person at 0;person at 1 family 0;person at 1 family 9;person at 0 family 9;minds : kin;");
        due("family 0 is one, too", x.minds(0, 1), 1);
        due("family 9", x.minds(2, 3), 1);
        due("0 and 9", x.minds(0, 2), 0);
    }

    void promise07Kept() {
        says("each + - * is kept from -1,000,000 to 1,000,000;");
        law("999 * 999 + 999 + 999", 999999);
        law("999 * 999 + 999 + 999 + 1", 1000000);
        law("999 * 999 + 999 + 999 + 2", 1000000);
        law("999 * 999 * 999", 1000000);
        law("999 * 999 * 2 - 1", 999999);
        law("0 - 999 * 999 - 999 - 999", -999999);
        law("0 - 999 * 999 - 999 - 999 - 1", -1000000);
        law("0 - 999 * 999 - 999 - 999 - 2", -1000000);
        law("(0 - 999) * 999 * 999 + 1", -999999);
        law("999 * 999 * 999 * 999 * 999", 1000000);
        law("(0 - 999) * 999 * 999 * 999 * 999 * 999", -1000000);
        law("(0 - 999 * 999 * 2) * (0 - 999 * 999 * 2)", 1000000);
        law("999 * 999 * 2 - 999 * 999 * 3", 0);
        law("0 - 999 * 999 * 2 - 999 * 999 * 2 + 999 * 999 * 2", 0);
        law("999 * 999 * 2 * 0", 0);
    }

    void promise07Sums() {
        says("SUM: TERM { + TERM | - TERM }; TERM: ATOM { * ATOM }; ATOM: N, ( SUM ), if TRUTH then SUM else SUM end, "
            + "who, of, mood, kin, in minds cares, in sends at, home, own.");
        law("0", 0);
        law("999", 999);
        law("2 + 3 * 4", 14);
        law("2 * 3 + 4", 10);
        law("9 - 3 - 2", 4);
        law("9 - (3 - 2)", 8);
        law("9 - 3 + 2", 8);
        law("(2 + 3) * 4", 20);
        law("1 - 5", -4);
        law("2 * if kin = 1 then if mood = 6 then 5 else 6 end else 7 end + 1", 11);
        law("(who) + (((of)))", 2);
        law("1+2*3-4*5+6", -7);
    }

    void promise07Truths() {
        says("TRUTH: BOTH { or BOTH }; BOTH: UNIT { and UNIT }; "
            + "UNIT: not UNIT, [ TRUTH ], or SUM, one of = < >, SUM.");
        says("if tells the one SUM, if the TRUTH holds, else the other one.");
        truth("cares = 3", true);
        truth("cares = 2", false);
        truth("cares = 4", false);
        truth("cares < 3", false);
        truth("cares < 4", true);
        truth("cares > 3", false);
        truth("cares > 2", true);
        truth("0 - 1 < 0", true);
        truth("1 + 1 = 2 * 1", true);
        truth("1 = 1 or 1 = 1 and 1 = 2", true);
        truth("[1 = 1 or 1 = 1] and 1 = 2", false);
        truth("1 = 2 and 1 = 1 or 1 = 1", true);
        truth("1 = 2 or 1 = 2 or 1 = 1", true);
        truth("1 = 1 and 1 = 1 and 1 = 2", false);
        truth("not 1 = 2 and 1 = 2", false);
        truth("not [1 = 2 and 1 = 2]", true);
        truth("not 1 = 1 or 1 = 1", true);
        truth("not [1 = 1 or 1 = 1]", false);
        truth("not not 1 = 1", true);
        truth("not not not 1 = 1", false);
        truth("(1) = (1)", true);
        truth("if 1 = 1 then 2 else 3 end = 2", true);
    }

    private void truth(String truth, boolean want) {
        law("if " + truth + " then 7 else 8 end", want ? 7 : 8);
    }

    void promise07LongestRow() {
        says("Who MINDS of: as much as the law minds tells (without one: cares).");
        String deep = "if 1=2 or 1=1 and 1<1+1*";
        law("1+1*" + deep.repeat(5) + "if 1=2 or 1=1 and 1<2 then 1 else 0 end"
            + " then 1 else 0 end".repeat(4) + " then 5 else 0 end", 6);
        law("1" + "+1".repeat(380), 381);
        law("1" + "*1".repeat(380), 1);
    }

    void promise07WithoutLaw() {
        says("(without one: cares)");
        begin(KIN);
        due("minds(2, 0)", 7);
        due("minds(0, 2)", 0);
        due("arouse(0, 2)", 1);
        due("minds(0, 2)", 1);
    }

    void promise07NoSuch() {
        says("How much one MINDS another one.");
        says("-99000002: PEOPLE, both one.");
        says("minds(): -99000002.");
        begin(KIN);
        refusedFor("minds(0, %)", -99000002, -1, 0, 5, 6, Integer.MIN_VALUE, Integer.MAX_VALUE);
        refusedFor("minds(%, 0)", -99000002, -1, 5, 6, Integer.MIN_VALUE, Integer.MAX_VALUE);
        due("minds(4, 0)", 1);
    }

    // ---- 8: would

    private int wouldBy(String law) {
        begin("places 6;person at 4 home 1 mood 3;person at 2 home 5;sends : " + law + ";");
        return x.would(0, 1);
    }

    void promise08Words() {
        says("at: the PLACE where who is, home: HOME of of, own: HOME of who;");
        due("at", wouldBy("at"), 4);
        due("at", x.would(1, 0), 2);
        due("home", wouldBy("home"), 5);
        due("home", x.would(1, 0), 1);
        due("own", wouldBy("own"), 1);
        due("own", x.would(1, 0), 5);
        due("mood", wouldBy("mood"), 3);
        due("kin", wouldBy("kin"), 1);
        due("of", wouldBy("of"), 1);
        due("who", wouldBy("who"), 0);
    }

    void promise08Modulo() {
        says("Who WOULD send it: to the PLACE that the law sends tells, modulo PLACES, from 0 on (without one: home).");
        due("5", wouldBy("5"), 5);
        due("6", wouldBy("6"), 0);
        due("20", wouldBy("20"), 2);
        due("-1", wouldBy("0 - 1"), 5);
        due("-5", wouldBy("0 - 5"), 1);
        due("-6", wouldBy("0 - 6"), 0);
        due("-7", wouldBy("0 - 7"), 5);
        due("-12", wouldBy("0 - 12"), 0);
        // 1,000,000 is 166,666 times 6 and 4.
        due("most", wouldBy("999 * 999 * 999"), 4);
        due("least", wouldBy("0 - 999 * 999 * 999"), 2);
        begin("places 2;person at 0;person at 1;sends : 3;");
        due("modulo 2", x.would(0, 1), 1);
    }

    void promise08WithoutLaw() {
        says("(without one: home)");
        begin("places 3;person at 0 home 2;person at 1;");
        due("would(1, 0)", 2);
        due("would(0, 1)", 1);
        due("move(1, 0)", 0);
        due("home stays", x.would(0, 1), 1);
    }

    void promise08WhereOneIs() {
        says("Where one WOULD send a LETTER to another one.");
        begin(LINE);
        due("would(4, 0)", 0);
        due("move(4, 2)", 0);
        due("would(4, 0)", 3);
    }

    void promise08NoSuch() {
        says("-2: PEOPLE, both one.");
        begin(KIN);
        refusedFor("would(0, %)", -2, -1, 0, 5, 6, Integer.MIN_VALUE, Integer.MAX_VALUE);
        refusedFor("would(%, 0)", -2, -1, 5, 6, Integer.MIN_VALUE, Integer.MAX_VALUE);
        due("would(4, 0)", 0);
    }

    // ---- 9: letter

    void promise09PlaceToGiven() {
        says("Of a LETTER, what 0: its PLACE, 1: to whom, 2: 1 if GIVEN, else 0,");
        begin(KIN);
        due("mail(0, 1)", 0);
        due("mail(3, 0)", 1);
        due("mail(0, 0)", 2);
        row("letter(%, 0)", 1, 0, 0);
        row("letter(%, 1)", 0, 3, 0);
        row("letter(%, 2)", 0, 0, 1);
        due("days(1)", 0);
        row("letter(%, 0)", 3, 0, 0);
        due("days(1)", 1);
        row("letter(%, 0)", 0, 0, 0);
        row("letter(%, 2)", 1, 0, 1);
    }

    void promise09Since() {
        says("3: DAYS since it was POSTED (till it was GIVEN),");
        begin(KIN);
        due("mail(0, 1)", 0);
        due("mail(0, 0)", 1);
        due("mail(1, 0)", 2);
        row("letter(%, 3)", 0, 0, 0);
        due("days(1)", 0);
        row("letter(%, 3)", 1, 0, 1);
        due("mail(0, 3)", 3);
        due("days(99)", 2);
        row("letter(%, 3)", 2, 0, 100, 1);
        due("moved to, after 100 days", x.move(1, 0), 1);
        due("days(5)", 0);
        row("letter(%, 3)", 2, 0, 100, 1);
    }

    void promise09Next() {
        says("4: who sends it next, to the same PLACE, too (NONE; GIVEN: NONE).");
        begin(RING);
        due("mail(3, 2)", 0);
        due("mail(3, 4)", 1);
        due("mail(3, 3)", 2);
        due("mail(3, 5)", 3);
        row("letter(%, 4)", 2, -1, -1, 4);
        due("given where others are, too", x.move(0, 3) + x.letter(2, 4), -1);
        due("days(1)", 1);
        row("letter(%, 4)", 2, -1, -1, -1);
        begin(LINE);
        due("mail(4, 0)", 0);
        due("person 0, too", x.letter(0, 4), 0);
    }

    void promise09NoSuch() {
        says("-2.");
        begin(KIN);
        refused("letter(0, 0)", -2);
        due("mail(0, 1)", 0);
        refusedFor("letter(%, 0)", -2, -1, 1, 5, 6, Integer.MIN_VALUE, Integer.MAX_VALUE);
        refusedFor("letter(0, %)", -2, -1, 5, 10, Integer.MIN_VALUE, Integer.MAX_VALUE);
    }
}
