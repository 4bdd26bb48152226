/** Promises 3 and 4: texts and their faults. */
final class TextPromises extends Promises {
    private static final String MINDS = "places 2;minds : ";
    private static final String TWO = "places 3;person at 0;person at 1;";

    /** Every TOKEN of the language at least once, blanks between them. */
    private static final String[] WHOLE = ("places 6 ; person at 5 home 0 family 9 mood 9 away 10 ; person at 0 ; "
        + "cares 0 for 1 9 ; minds : ( 1 + cares ) * who - of * if not [ mood = 1 or kin < 2 ] and 1 > 0 "
        + "then 1 else 2 end ; sends : at + home * own - 999 ; day 999 ;").split(" ");

    /** A text with a fault, and that all stays with it. */
    private void fault(String text, int kind, int place) {
        String before = post();
        due("post of '" + text + "'", Calls.tell(x, text), -30 - kind);
        due("fault(0) of '" + text + "'", x.fault(0), kind);
        due("fault(1) of '" + text + "'", x.fault(1), place);
        if (!post().equals(before)) {
            wrong.add("'" + text + "' changed something");
        }
    }

    private void good(String text, int lines) {
        due("post of '" + text + "'", Calls.tell(x, text), lines);
        due("fault(0) of '" + text + "'", x.fault(0), 0);
        due("fault(1) of '" + text + "'", x.fault(1), -1);
        due("count(8) of '" + text + "'", x.count(8), lines);
    }

    /** All but the fault. */
    private String post() {
        StringBuilder s = new StringBuilder();
        for (int i = 0; i < 9; i++) {
            s.append(x.count(i)).append(' ');
        }
        for (int p = 0; p < 6; p++) {
            for (int i = 0; i < 6; i++) {
                s.append(x.person(p, i)).append(' ').append(x.letter(p, i)).append(' ');
                s.append(x.cares(p, i)).append(' ').append(x.minds(p, i)).append(' ');
                s.append(x.would(p, i)).append(' ');
            }
        }
        return s.toString();
    }

    private static String join(String[] tokens, int from, int till) {
        StringBuilder s = new StringBuilder();
        for (int i = from; i < till; i++) {
            s.append(i == from ? "" : " ").append(tokens[i]);
        }
        return s.toString();
    }

    // ---- 3: post

    void promise03FirstBytes() {
        says("The first n bytes of THE TAPE (which is empty then) are THE POST,");
        // "places 2;places 3;  "
        x.feed(0x706c6163, 0x65732032, 0x3b706c61, 0x63657320, 0x333b2020);
        due("post(9)", 1);
        due("count(0)", 2);
        due("count(7)", 0);
        due("the rest is gone", x.post(1), -3);
        x.feed(0x706c6163, 0x65732032, 0x3b706c61, 0x63657320, 0x333b2020);
        due("all of it", x.post(20), -32);
        due("count(7)", 0);
        x.feed(0x706c6163, 0x65732032, 0x3b706c61, 0x63657320, 0x333b2020);
        due("one less than a text", x.post(8), -32);
        due("fault(1)", 8);
    }

    void promise03Nothing() {
        says("The first n bytes of THE TAPE (which is empty then) are THE POST,");
        due("post(0)", -32);
        row("fault(%)", 2, 0);
        x.feed(0x706c6163, 0x65732032, 0x3b706c61, 0x63657320, 0x333b2020);
        due("post(0)", -32);
        due("count(7)", 0);
        row("fault(%)", 2, 0);
    }

    void promise03Longest() {
        says("THE POST is a TEXT of at most 900 bytes (without one: 2 PLACES, no PEOPLE): ");
        good("places 2;" + "day 1;".repeat(148) + "\n\n ", 149);
        good("places 2;" + "day 1;".repeat(147) + "day   2 ;", 149);
        due("count(4)", 2);
        // The end of 900 bytes is in the midst of a line.
        fault("places 2;" + "day 1;".repeat(148) + "day", 2, 900);
        fault("places 2;" + "day 1;".repeat(148) + "da!", 2, 897);
        fault("places 2;" + "day 1;".repeat(148) + "  !", 1, 899);
    }

    void promise03LettersAndUndoing() {
        says("there are no LETTERS, nothing can be UNDONE:");
        good(LINE, 8);
        due("mail(4, 0)", 0);
        due("days(9)", 1);
        due("count(6)", 2);
        good(LINE, 8);
        row("count(%)", 5, 5, 0, 0, 0, 0, 0, 0, 8);
        refused("letter(0, 0)", -2);
        refused("undo(1)", -3);
    }

    void promise03NothingOfTheFormerPost() {
        says("are THE POST,");
        StringBuilder full = new StringBuilder("places 6;");
        for (int p = 0; p < 6; p++) {
            full.append("person at " + p + " home " + (5 - p) + " family 1 mood 2 away 3;");
        }
        for (int q = 0; q < 5; q++) {
            full.append("cares 5 for " + q + " 9;cares " + q + " for 5 9;");
        }
        good(full + "sends : own;day 9;", 19);
        for (int p = 0; p < 6; p++) {
            row("person(" + p + ", %)", p, 5 - p, 1, 2, 3, 0);
        }
        due("count(5)", 90);
        due("mood(2, 7)", 2);
        good("places 5;person at 4;person at 3;person at 2;person at 1;person at 0;person at 0;", 7);
        row("count(%)", 5, 6, 0, 0, 0, 0, 0, 0, 7);
        for (int p = 0; p < 6; p++) {
            int at = Math.max(0, 4 - p);
            row("person(" + p + ", %)", at, at, 0, 0, 0, 0);
            row("cares(" + p + ", %)", 0, 0, 0, 0, 0, 0);
        }
        due("no law", x.would(2, 0), 4);
        good(LINE, 8);
        due("minds(1, 0)", 1);
        good("places 5;person at 4;person at 3;", 3);
        due("no law", x.minds(1, 0), 0);
    }

    void promise03ManyTexts() {
        says("are THE POST,");
        for (int i = 1; i <= 9; i++) {
            good("places 2;person at 0;person at 1;minds : " + i + "+1".repeat(400) + ";", 4);
            due("minds(0, 1)", 400 + i);
        }
    }

    void promise03Lines() {
        says("how many LINES (places, too; ");
        good("places 2;", 1);
        good("places 2;day 1;", 2);
        good("places 2;day 1;day 1;person at 0;minds : 1;minds : 1;sends : 1;", 7);
        good("\n places 2;\n\n", 1);
    }

    void promise03StaysWithFault() {
        says("all stays with a FAULT).");
        good(LINE, 8);
        due("mail(4, 0)", 0);
        due("mail(3, 3)", 1);
        due("arouse(1, 2)", 1);
        due("mood(1, 2)", 0);
        due("days(2)", 0);
        fault("places 2;person at 0;cares 0 for 0 1;", 3, 33);
        fault("places 2;person at 0;minds : 5;sends : 0;day 9;!", 1, 47);
        fault("", 2, 0);
        due("it can still be undone", x.undo(5), 0);
        row("count(%)", 5, 5, 0, 0, 0, 0, 0, 0, 8);
    }

    void promise03RefusedN() {
        says("-3: n is below 0 or above what there is (THE TAPE stays);");
        says("-3 a number can't be;");
        refusedFor("post(%)", -3, 1, -1, 20, 900, 901, Integer.MIN_VALUE, Integer.MAX_VALUE);
        x.feed(0x706c6163, 0x65732032, 0x3b202020, 0x20202020, 0x20202020);
        refusedFor("post(%)", -3, 21, -1, Integer.MIN_VALUE, Integer.MAX_VALUE);
        due("count(7)", 20);
        due("what is on it stays, too", x.post(20), 1);
    }

    void promise03Codes() {
        says("-30 less the FAULT.");
        says("-30 less the FAULT: a text.");
        due("1", Calls.tell(x, "!"), -31);
        due("2", Calls.tell(x, "day"), -32);
        due("3", Calls.tell(x, "places 9;"), -33);
        due("4", Calls.tell(x, "places 2;" + "person at 0;".repeat(7)), -34);
    }

    void promise03EveryToken() {
        says("places N ; { LINE ; } LINE: person at N { FLAG } | cares N for N N | minds : SUM | sends : SUM | day N. "
            + "FLAG: home N | family N | mood N | away N.");
        good(join(WHOLE, 0, WHOLE.length), 7);
        for (int i = 0; i < WHOLE.length; i++) {
            String ahead = join(WHOLE, 0, i) + (i > 0 ? " " : "");
            String behind = " " + join(WHOLE, i + 1, WHOLE.length);
            fault(ahead + "zz" + behind, 2, ahead.length());
            fault(ahead + "!" + behind, 1, ahead.length());
            fault(ahead + "1000" + behind, 1, ahead.length());
        }
    }

    void promise03Places() {
        says("places: PLACES, 2 to 6, numbered from 0 on.");
        for (int n = 0; n <= 999; n++) {
            String text = "places " + n + ";";
            if (n < 2 || n > 6) {
                fault(text, 3, 7);
            } else {
                good(text, 1);
                due("count(0)", n);
                good(text + "person at 0;person at " + (n - 1) + " home 0;person at 0 home " + (n - 1) + ";", 4);
                due("mail(0, " + (n - 1) + ")", 0);
                refused("mail(0, " + n + ")", -11);
                fault(text + "person at " + n + ";", 3, 19);
                fault(text + "person at 0 home " + n + ";", 3, 26);
            }
        }
    }

    void promise03PersonDefaults() {
        says("person: at a PLACE; home: its HOME (where it is at); family 0 to 9 (0); mood 0 to 9 (0); "
            + "away: how likely, in 10, 0 to 10 (0);");
        good("places 3;person at 2;", 2);
        row("person(0, %)", 2, 2, 0, 0, 0, 0);
        good("places 3;person at 2 home 0 family 9 mood 9 away 10;", 2);
        row("person(0, %)", 2, 0, 9, 9, 10, 0);
        good("places 3;person at 0 away 0 mood 0 family 0 home 2;", 2);
        row("person(0, %)", 0, 2, 0, 0, 0, 0);
        fault("places 3;person at 2 family 10;", 3, 28);
        fault("places 3;person at 2 mood 10;", 3, 26);
        fault("places 3;person at 2 away 11;", 3, 26);
        fault("places 3;person at 2 home 3;", 3, 26);
        fault("places 3;person at 3;", 3, 19);
    }

    void promise03SixPeople() {
        says("numbered from 0 on, 6 at most; later ones of a flag strike.");
        good("places 6;person at 5;person at 4;person at 3;person at 2;person at 1;person at 0;", 7);
        row("person(%, 0)", 5, 4, 3, 2, 1, 0, -2);
        fault("places 2;" + "person at 0;".repeat(7), 4, 81);
        good("places 3;person at 0 home 2 family 3 mood 4 away 5 home 1 family 6 mood 7 away 8;", 2);
        row("person(0, %)", 0, 1, 6, 7, 8, 0);
        good("places 3;person at 0 mood 9 mood 0 home 2 home 0;", 2);
        row("person(0, %)", 0, 0, 0, 0, 0, 0);
        fault("places 3;person at 0 mood 10 mood 1;", 3, 26);
    }

    void promise03Cares() {
        says("cares: who, for whom (both told ahead, not one), how much it CARES, 0 to 9 (0); "
            + "a later one of the same two strikes.");
        good(TWO + "cares 0 for 1 9;", 4);
        row("cares(0, %)", 0, 9);
        due("cares(1, 0)", 0);
        good(TWO + "cares 0 for 1 9;cares 1 for 0 3;cares 0 for 1 0;", 6);
        due("cares(0, 1)", 0);
        due("cares(1, 0)", 3);
        fault(TWO + "cares 0 for 1 10;", 3, 47);
        fault(TWO + "cares 0 for 0 1;", 3, 45);
        fault(TWO + "cares 1 for 1 1;", 3, 45);
        fault(TWO + "cares 2 for 0 1;person at 0;", 3, 39);
        fault(TWO + "cares 0 for 2 1;person at 0;", 3, 45);
        fault(TWO + "cares 2 for 2 1;", 3, 39);
        good(TWO + "person at 0;cares 2 for 0 1;cares 0 for 2 1;", 6);
        fault("places 2;cares 0 for 1 1;", 3, 15);
    }

    void promise03Day() {
        says("day: the first one, 0 to 999 (0).");
        good("places 2;", 1);
        due("count(4)", 0);
        good("places 2;day 0;", 2);
        due("count(4)", 0);
        good("places 2;day 999;", 2);
        due("count(4)", 999);
        due("days(1)", 0);
        due("count(4)", 1000);
        fault("places 2;day 1000;", 1, 13);
    }

    void promise03LaterOnesStrike() {
        says("Later ones of minds, sends, day strike.");
        good(TWO + "minds : 4;sends : 2;day 5;minds : 6 - who;sends : 1;day 7;", 9);
        due("minds(0, 1)", 6);
        due("minds(1, 0)", 5);
        due("would(0, 1)", 1);
        due("count(4)", 7);
        good(TWO + "day 5;minds : (1 + 2) * 3;minds : 0;sends : 2;day 0;minds : 8;", 9);
        due("minds(0, 1)", 8);
        due("would(0, 1)", 2);
        due("count(4)", 0);
        good(TWO + "minds:1;sends:2;".repeat(50) + "minds:who+7;sends:at+1;", 105);
        due("minds(1, 0)", 8);
        due("would(1, 0)", 2);
        due("would(0, 1)", 1);
    }

    // ---- 4: fault

    void promise04LatestRead() {
        says("Of the latest post() that was read, what 0: its FAULT (0), 1: its place (NONE).");
        row("fault(%)", 0, -1);
        fault("places 2;person;", 2, 15);
        due("one that wasn't read", x.post(1), -3);
        due("one that wasn't read", x.post(-1), -3);
        row("fault(%)", 2, 15);
        good("places 2;", 1);
        due("one that wasn't read", x.post(-1), -3);
        row("fault(%)", 0, -1);
        fault("places 7;", 3, 7);
        fault("!", 1, 0);
    }

    void promise04Others() {
        says("NONE for others.");
        fault("places 2;person;", 2, 15);
        for (long what : new long[] {-1, 2, 3, 10, Integer.MIN_VALUE, Integer.MAX_VALUE}) {
            due("fault(" + what + ")", -1);
        }
    }

    void promise04Blanks() {
        says("TOKENS, as long as they go on, between them blanks (10, 32):");
        good("places2;person at0home1;day7;", 3);
        good("\n\nplaces\n2\n;\n \nday 7 ;", 2);
        good(" ".repeat(500) + "places 2;", 1);
        fault("places 2;personat 0;", 2, 9);
        fault("places 2;per son at 0;", 2, 9);
        fault("places 2;day 1 2;", 2, 15);
        good("places 2;day 12;", 2);
        fault("pla", 2, 0);
        fault("placesplaces 2;", 2, 0);
        fault("places 2;days 1;", 2, 9);
        fault("places 2;da 1;", 2, 9);
    }

    void promise04EveryByte() {
        says("words (small letters), N (1 to 3 digits), the signs ; : + - * ( ) [ ] = < >.");
        says("1 no TOKEN begins so");
        String tokens = "abcdefghijklmnopqrstuvwxyz0123456789;:+-*()[]=<>";
        for (int c = 0; c < 256; c++) {
            String text = "places 2;" + (char) c;
            if (c == 10 || c == 32) {
                good(text, 1);
            } else {
                fault(text, tokens.indexOf(c) >= 0 ? 2 : 1, 9);
            }
        }
    }

    void promise04Digits() {
        says("1 no TOKEN begins so (4 digits and more: at their first).");
        good("places 2;day 7;", 2);
        good("places 02;day 07;", 2);
        good("places 002;day 007;", 2);
        due("count(4)", 7);
        fault("places 0002;", 1, 7);
        fault("places 2;day 0007;", 1, 13);
        fault("places 2;day 12345678901234567890;", 1, 13);
        fault("places 2;day 2147483648;", 1, 13);
        fault("places 2;day 4294967297;", 1, 13);
        good("places 2;minds : 999;", 2);
        fault("places 2;minds : 1000;", 1, 17);
    }

    void promise04FirstAlong() {
        says("FAULTS, the first along the text,");
        fault("places 2;person at 2;day 1000;!", 3, 19);
        fault("places 2;day;person at 2;", 2, 12);
        fault("places 2;!;person at 2;", 1, 9);
        fault("places 2;day 1000;" + "person at 0;".repeat(7), 1, 13);
        fault("places 2;" + "person at 0;".repeat(7) + "!", 4, 81);
        fault(TWO + "cares 5 for 5 99;", 3, 39);
        fault(TWO + "cares 0 for 5 99;", 3, 45);
    }

    void promise04LeastKind() {
        says("of one TOKEN the least kind:");
        fault("places 2;person 1000;", 1, 16);
        fault("places 2;person at 1000;", 1, 19);
        fault("places 2;person 9;", 2, 16);
        fault("9;", 2, 0);
        String six = "places 2;" + "person at 0;".repeat(6);
        fault(six + "person;", 4, 81);
        fault(six + "persons;", 2, 81);
        fault(six + "person at 9;", 4, 81);
        fault(MINDS + "((((((1 (1);", 2, 25);
        fault(MINDS + "(((((([1", 2, 23);
        fault(MINDS + "((((((not", 2, 23);
        fault(MINDS + "((((((1 if", 2, 25);
        fault(MINDS + "((((((!", 1, 23);
    }

    void promise04End() {
        says("2 it can't stand there (the end: the text's length;");
        for (int i = 0; i < WHOLE.length; i++) {
            String ahead = join(WHOLE, 0, i);
            if (i > 0 && WHOLE[i - 1].equals(";")) {
                due("'" + ahead + "'", Calls.tell(x, ahead) > 0 ? 1 : 0, 1);
            } else {
                fault(ahead, 2, ahead.length());
                fault(ahead + " \n", 2, ahead.length() + 2);
            }
        }
    }

    void promise04PlacesFirstAndOnce() {
        says("places must be told first, and once;");
        fault("day 3;places 2;", 2, 0);
        fault("person at 0;places 2;", 2, 0);
        fault("; places 2;", 2, 0);
        fault("places 2;places 2;", 2, 9);
        fault("places 2;day 1;places 3;", 2, 15);
        fault("places 2;;", 2, 9);
    }

    void promise04OtherLaw() {
        says("a word of the other law).");
        says("in minds cares, in sends at, home, own.");
        for (String word : new String[] {"who", "of", "mood", "kin"}) {
            good("places 2;minds : " + word + ";sends : " + word + ";", 3);
        }
        good("places 2;minds : cares;sends : at;sends : home;sends : own;", 5);
        fault("places 2;sends : cares;", 2, 17);
        fault("places 2;minds : at;", 2, 17);
        fault("places 2;minds : home;", 2, 17);
        fault("places 2;minds : own;", 2, 17);
        fault("places 2;sends : at;minds : 1 + at;", 2, 32);
        fault("places 2;minds : cares;sends : 1 + cares;", 2, 35);
        for (String word : new String[] {"family", "away", "places", "person", "for", "day", "minds", "sends"}) {
            fault("places 2;minds : " + word + ";", 2, 17);
            fault("places 2;sends : " + word + ";", 2, 17);
        }
    }

    void promise04CanNotStand() {
        says("2 it can't stand there");
        fault(MINDS + ";", 2, 17);
        fault(MINDS + "- 1;", 2, 17);
        fault(MINDS + "1 +;", 2, 20);
        fault(MINDS + "1 + * 2;", 2, 21);
        fault(MINDS + "1 2;", 2, 19);
        fault(MINDS + "1 who;", 2, 19);
        fault(MINDS + "();", 2, 18);
        fault(MINDS + "(1;", 2, 19);
        fault(MINDS + "(1]", 2, 19);
        fault(MINDS + "1);", 2, 18);
        fault(MINDS + "[1];", 2, 17);
        fault(MINDS + "1 = 1;", 2, 19);
        fault(MINDS + "1 or 1;", 2, 19);
        fault(MINDS + "not 1;", 2, 17);
        fault("places 2;minds 1;", 2, 15);
        fault("places 2;sends = 1;", 2, 15);
        fault("places 2;person at home 1;", 2, 19);
        fault("places 2;person at 0 at 1;", 2, 21);
        fault("places 2;person at 0 home;", 2, 25);
        fault("places 2;person at 0 1;", 2, 21);
    }

    /** WHOLE, with what can stand in the place of each TOKEN: the name of one of the sets below. */
    private static final String SETS = "places 6 ; L at 5 G 0 G 9 G 9 G 10 G L at 0 G L 0 for 1 9 ; L : A A P A P O A "
        + "O A O A T T T C A E T C A E X T C A D A H A I O L : B O B O B O B O L 999 ;";

    private static String setOf(String name) {
        String atom = " 1 ( if who of mood kin ";
        switch (name) {
            case "L":
                return " person cares minds sends day ";
            case "G":
                return " home family mood away ; ";
            case "A":
                return atom + "cares ";
            case "B":
                return atom + "at home own ";
            case "T":
                return atom + "cares not [ ";
            case "C":
                return " + - * = < > ";
            case "D":
                return " + - * and or then ";
            case "E":
                return " + - * and or ] ";
            case "X":
                return " and or then ";
            case "H":
                return " + - * else ";
            case "I":
                return " + - * end ";
            case "O":
                return " + - * ; ";
            case "P":
                return " + - * ) ";
            default:
                return Character.isDigit(name.charAt(0)) ? " 1 " : " " + name + " ";
        }
    }

    void promise04EachInPlaceOfEach() {
        says("2 it can't stand there");
        String[] sets = SETS.split(" ");
        String all = "places person at home family mood away cares for minds sends day who of kin own if then else end "
            + "not or and ; : + - * ( ) [ ] = < > 1 zz";
        due("as many", sets.length, WHOLE.length);
        for (int i = 0; i < WHOLE.length; i++) {
            String ahead = join(WHOLE, 0, i) + (i > 0 ? " " : "");
            String behind = " " + join(WHOLE, i + 1, WHOLE.length);
            for (String token : all.split(" ")) {
                if (!setOf(sets[i]).contains(" " + token + " ")) {
                    fault(ahead + token + behind, 2, ahead.length());
                } else if (!token.equals("1")) {
                    Calls.tell(x, ahead + token + behind);
                    due(token + " can stand behind '" + ahead + "'", x.fault(1) == ahead.length() ? 0 : 1, 1);
                }
            }
        }
    }

    void promise04TruthsCanNotStand() {
        says("2 it can't stand there");
        fault(MINDS + "if 1 then 2 else 3 end;", 2, 22);
        fault(MINDS + "if then 2 else 3 end;", 2, 20);
        fault(MINDS + "if 1 = 1 = 1 then 2 else 3 end;", 2, 26);
        fault(MINDS + "if 1 < = 1 then 2 else 3 end;", 2, 24);
        fault(MINDS + "if [1 = 1] = 1 then 2 else 3 end;", 2, 28);
        fault(MINDS + "if [1] = 1 then 2 else 3 end;", 2, 22);
        fault(MINDS + "if (1 = 1) then 2 else 3 end;", 2, 23);
        fault(MINDS + "if 1 = [1] then 2 else 3 end;", 2, 24);
        fault(MINDS + "if 1 = not 1 then 2 else 3 end;", 2, 24);
        fault(MINDS + "if 1 = 1 and then 2 else 3 end;", 2, 30);
        fault(MINDS + "if 1 = 1 then 2 end;", 2, 33);
        fault(MINDS + "if 1 = 1 else 2 end;", 2, 26);
        fault(MINDS + "if 1 = 1 then 2 else 3;", 2, 39);
        fault(MINDS + "if 1 = 1 then 2 else 3 end end;", 2, 44);
    }

    void promise04OutOfBounds() {
        says("3 an N out of its bounds (a PERSON that isn't told, one and the same).");
        fault("places 1;", 3, 7);
        fault("places 7;", 3, 7);
        fault("places 999;", 3, 7);
        fault("places 2;person at 2;", 3, 19);
        fault("places 6;person at 6;", 3, 19);
        fault(TWO + "cares 2 for 0 1;", 3, 39);
        fault(TWO + "cares 0 for 2 1;", 3, 45);
        fault(TWO + "cares 1 for 1 1;", 3, 45);
        fault(TWO + "cares 1 for 001 1;", 3, 45);
        fault(TWO + "cares 1 for 0 10;", 3, 47);
        fault(TWO + "cares 1 for 0 999;", 3, 47);
    }

    void promise04SeventhPerson() {
        says("4 the first TOKEN of a 7th person;");
        String six = "places 2;" + "person at 0;".repeat(6);
        good(six, 7);
        good(six + "day 1;cares 5 for 4 1;", 9);
        fault(six + "person at 0;", 4, 81);
        fault(six + "day 1;\nperson at 0;", 4, 88);
        fault(six + "person", 4, 81);
    }

    void promise04SeventhWithin() {
        says("a seventh of not [ ( if.");
        says("At most six of not [ ( if within one another.");
        good(MINDS + "((((((1))))));", 2);
        fault(MINDS + "(((((((1)))))));", 4, 23);
        good("places 2;sends : ((((((at))))));", 2);
        fault("places 2;sends : (((((((at)))))));", 4, 23);
        good(MINDS + "if not not not not not 1 = 1 then 1 else 2 end;", 2);
        fault(MINDS + "if not not not not not not 1 = 1 then 1 else 2 end;", 4, 40);
        good(MINDS + "if [[[[[1 = 1]]]]] then 1 else 2 end;", 2);
        fault(MINDS + "if [[[[[[1 = 1]]]]]] then 1 else 2 end;", 4, 25);
        fault(MINDS + "if not not not not not [1 = 1]", 4, 40);
        fault(MINDS + "if not not not not not (1) = 1", 4, 40);
        fault(MINDS + "if not not not not not if", 4, 40);
        good(MINDS + "if not [not [(1) = 1]] and (1 + (1)) = 2 then 1 else 2 end;", 2);
    }

    void promise04SeventhIf() {
        says("At most six of not [ ( if within one another.");
        String start = "if 1=1 then ";
        good(MINDS + start.repeat(6) + "1" + " else 2 end".repeat(6) + ";", 2);
        fault(MINDS + start.repeat(7) + "1" + " else 2 end".repeat(7) + ";", 4, 17 + 72);
        String last = "if 1=1 then 1 else ";
        good(MINDS + last.repeat(6) + "2" + " end".repeat(6) + ";", 2);
        fault(MINDS + last.repeat(7) + "2" + " end".repeat(7) + ";", 4, 17 + 6 * 19);
        fault(MINDS + "if ".repeat(7), 4, 17 + 18);
        fault(MINDS + start.repeat(6) + "(", 4, 17 + 72);
        fault(MINDS + last.repeat(6) + "(", 4, 17 + 6 * 19);
    }

    void promise04BesideOneAnother() {
        says("At most six of not [ ( if within one another.");
        good(MINDS + "(1)+".repeat(20) + "1;", 2);
        good(MINDS + "((((((1))))))" + "*((((((1))))))".repeat(8) + ";", 2);
        good(MINDS + "if not 1=1 or not 1=1 or not 1=1 or not 1=1 or not 1=1 or not 1=1 then 1 else 2 end;", 2);
        good(MINDS + "if [[[[1=1]]]] and [[[[1=1]]]] then ((((1)))) else ((((1)))) end;", 2);
        good(MINDS + "if 1=1 then 1 else 2 end+".repeat(8) + "1;", 2);
        fault(MINDS + "((((((1))))))+(((((((1)))))));", 4, 37);
    }
}
