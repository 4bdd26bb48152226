/** Promises 36 to 40: two letters, and how likely one comes. */
final class ChancePromises extends Promises {
    /** Person 1 sends to person 0 at 1, if it isn't away, which it is so likely in 10. */
    private static String awayBy(int away) {
        return "places 2;person at 1;person at 0 away " + away + ";cares 1 for 0 1;";
    }

    private void chance(String call, long above, long below) {
        due(call.replace("%", "0"), above);
        due(call.replace("%", "1"), below);
    }

    // ---- 36: meet

    void promise36InHowMany() {
        says("In how many DAYS (0 to 99) LETTERS to two PEOPLE (to one and the same, too), posted at a PLACE each, "
            + "lie at one PLACE first.");
        begin(KIN);
        due("meet(0, 1, 0, 2)", 1);
        due("where it is", x.meet(0, 0, 0, 1), 2);
        due("at once", x.meet(0, 1, 4, 1), 0);
        due("one and the same way", x.meet(0, 1, 0, 1), 0);
        due("the other lies at 3", x.meet(0, 1, 2, 3), 1);
        due("the other lies at 3", x.meet(2, 3, 0, 1), 1);
    }

    void promise36Late() {
        says("In how many DAYS (0 to 99) LETTERS");
        // To 0 round a ring of five, to 5 round one of four: once in 20 days both begin anew.
        begin("places 6;person at 5;person at 0;person at 1;person at 2;person at 3;person at 4;minds : 1;"
            + "sends : if of = 0 then if at = 4 then 0 else at + 1 end else if at = 3 then 0 else at + 1 end end;");
        due("meet(0, 4, 5, 0)", 16);
        due("meet(5, 0, 0, 4)", 16);
        due("meet(0, 0, 5, 1)", 15);
        due("meet(0, 0, 5, 0)", 0);
    }

    void promise36None() {
        says("NONE: in none; -2.");
        begin(KIN);
        due("meet(0, 1, 1, 2)", -1);
        begin("places 3;person at 2;person at 0;person at 1;minds : 1;sends : 1 - at;");
        due("always past one another", x.meet(0, 0, 0, 1), -1);
        refusedFor("meet(%, 0, 0, 0)", -2, -1, 3, 6, Integer.MIN_VALUE, Integer.MAX_VALUE);
        refusedFor("meet(0, %, 0, 0)", -2, -1, 3, 6, Integer.MIN_VALUE, Integer.MAX_VALUE);
        refusedFor("meet(0, 0, %, 0)", -2, -1, 3, 6, Integer.MIN_VALUE, Integer.MAX_VALUE);
        refusedFor("meet(0, 0, 0, %)", -2, -1, 3, 6, Integer.MIN_VALUE, Integer.MAX_VALUE);
    }

    // ---- 37: hub

    void promise37Most() {
        says("The PLACE at which to post LETTERS to most PEOPLE (each alone) so that they COME, the first.");
        begin(KIN);
        due("to 0, 1 and 2 from 1", x.hub(), 1);
        due("again", x.hub(), 1);
        begin("places 3;person at 2;person at 2;person at 1;");
        due("hub()", 2);
        begin("places 3;person at 1;person at 2;");
        due("the first of like ones", x.hub(), 1);
        begin(SIX);
        due("the first of all", x.hub(), 0);
        due("again", x.hub(), 0);
        due("meet(0, 5, 0, 5)", 0);
        tray(0, 5);
        due("probe(0, 0, 5, 1)", 0);
        due("after other questions", x.hub(), 0);
        begin("places 6;");
        due("nobody", x.hub(), 0);
        begin("places 6;person at 5;");
        due("the last", x.hub(), 5);
    }

    // ---- 38: chance

    void promise38InLowestTerms() {
        says("CHANCE in n DAYS (0 to 15), what 0: the number above, 1: below.");
        says("how likely it is GIVEN in n DAYS, in lowest terms.");
        begin(KIN);
        chance("chance(0, 1, 2, %)", 3, 5);
        chance("chance(0, 1, 3, %)", 21, 25);
        begin(awayBy(5));
        chance("chance(0, 0, 1, %)", 1, 2);
        chance("chance(0, 0, 2, %)", 3, 4);
        chance("chance(0, 0, 15, %)", 32767, 32768);
        begin(awayBy(8));
        // 1 less 4/5 to the n.
        chance("chance(0, 0, 1, %)", 1, 5);
        chance("chance(0, 0, 2, %)", 9, 25);
        chance("chance(0, 0, 15, %)", 30517578125L - 1073741824L, 30517578125L);
        begin(awayBy(9));
        chance("chance(0, 0, 15, %)", 1000000000000000L - 205891132094649L, 1000000000000000L);
        begin(awayBy(1));
        chance("chance(0, 0, 15, %)", 999999999999999L, 1000000000000000L);
    }

    void promise38NoDays() {
        says("CHANCE in n DAYS (0 to 15),");
        begin(KIN);
        chance("chance(0, 0, 0, %)", 1, 1);
        chance("chance(0, 0, 15, %)", 1, 1);
        chance("chance(0, 1, 0, %)", 0, 1);
        chance("chance(0, 1, 1, %)", 0, 1);
        chance("chance(1, 0, 15, %)", 0, 1);
        chance("chance(0, 3, 1, %)", 1, 1);
    }

    void promise38Away() {
        says("CHANCE: on each DAY who would send a LETTER on is away as likely as told, by itself;");
        begin(awayBy(0));
        chance("chance(0, 0, 1, %)", 1, 1);
        begin(awayBy(10));
        chance("chance(0, 0, 15, %)", 0, 1);
        begin("places 3;person at 2;person at 0 away 5;person at 1 away 5;minds : 1;sends : at + 1;");
        chance("chance(0, 0, 1, %)", 0, 1);
        chance("chance(0, 0, 2, %)", 1, 4);
        chance("chance(0, 0, 3, %)", 1, 2);
        chance("chance(0, 1, 2, %)", 3, 4);
    }

    void promise38SixPlaces() {
        says("CHANCE in n DAYS (0 to 15),");
        StringBuilder text = new StringBuilder("places 6;");
        for (int p = 0; p < 6; p++) {
            text.append("person at " + p + " away 5;");
        }
        begin(text + "minds : 1;sends : at + 1;");
        chance("chance(5, 5, 9, %)", 1, 1);
        chance("chance(5, 4, 1, %)", 1, 2);
        chance("chance(5, 0, 4, %)", 0, 1);
        chance("chance(5, 0, 5, %)", 1, 32);
        chance("chance(0, 5, 1, %)", 1, 2);
        chance("chance(0, 1, 5, %)", 1, 32);
        // Not away five times of six, or six times.
        chance("chance(0, 1, 6, %)", 7, 64);
    }

    void promise38NextOne() {
        says("then the next one that MINDS most there (more than 0, of like ones the first; never away that DAY) "
            + "sends it, or it stays, if there is none:");
        begin("places 3;person at 2;person at 0 away 4;person at 0 away 9;person at 0;cares 1 for 0 3;"
            + "cares 2 for 0 2;cares 3 for 0 1;sends : if who = 2 then 1 else 2 end;");
        chance("chance(0, 0, 9, %)", 3, 5);
        begin("places 3;person at 2;person at 0 away 10;person at 0 away 10;cares 1 for 0 3;cares 2 for 0 2;");
        chance("chance(0, 0, 1, %)", 1, 1);
        begin("places 3;person at 2;person at 0 away 10;person at 0;person at 0;cares 1 for 0 3;cares 2 for 0 2;"
            + "cares 3 for 0 2;sends : if who = 2 then 2 else 0 end;");
        chance("chance(0, 0, 1, %)", 1, 1);
        begin("places 3;person at 2;person at 0 away 5;person at 0;cares 1 for 0 3;");
        chance("chance(0, 0, 1, %)", 1, 2);
        begin("places 3;person at 2;person at 0 away 3;person at 0;cares 1 for 0 3;cares 2 for 0 2;"
            + "sends : if who = 2 then 2 else at end;");
        chance("chance(0, 0, 1, %)", 3, 10);
        chance("chance(0, 0, 2, %)", 51, 100);
    }

    void promise38Refused() {
        says("-2: the PERSON, the PLACE, what; -3: n.");
        says("(Of several that which the call tells first; all these ahead of NONE.)");
        begin(KIN);
        refusedFor("chance(%, 0, 0, 0)", -2, -1, 5, 6, Integer.MIN_VALUE, Integer.MAX_VALUE);
        refusedFor("chance(0, %, 0, 0)", -2, -1, 4, 5, Integer.MIN_VALUE, Integer.MAX_VALUE);
        refusedFor("chance(0, 0, 0, %)", -2, -1, 2, 3, Integer.MIN_VALUE, Integer.MAX_VALUE);
        refusedFor("chance(0, 0, %, 0)", -3, -1, 16, 17, Integer.MIN_VALUE, Integer.MAX_VALUE);
        refused("chance(5, 0, 16, 0)", -2);
        refused("chance(0, 4, -1, 0)", -2);
        refused("chance(0, 0, 16, 2)", -2);
    }

    // ---- 39: likely

    void promise39Fewest() {
        says("The fewest DAYS (0 to 15) in which CHANCE is m in 100 (0 to 100) at least.");
        begin(awayBy(5));
        due("likely(0, 0, 0)", 0);
        due("likely(0, 0, 1)", 1);
        due("likely(0, 0, 50)", 1);
        due("likely(0, 0, 51)", 2);
        due("likely(0, 0, 75)", 2);
        due("likely(0, 0, 76)", 3);
        due("likely(0, 0, 99)", 7);
        due("likely(0, 1, 100)", 0);
        begin(awayBy(0));
        due("likely(0, 0, 100)", 1);
        begin(KIN);
        due("likely(0, 1, 84)", 3);
        due("likely(0, 1, 85)", 4);
        due("likely(0, 3, 100)", 1);
    }

    void promise39None() {
        says("NONE: in none; -2; -3.");
        begin(awayBy(9));
        due("79 in fifteen", x.likely(0, 0, 79), 15);
        due("80 in more", x.likely(0, 0, 80), -1);
        begin(awayBy(5));
        due("never sure", x.likely(0, 0, 100), -1);
        begin(awayBy(10));
        due("never", x.likely(0, 0, 1), -1);
        due("0 in 100", x.likely(0, 0, 0), 0);
    }

    void promise39Refused() {
        says("-2; -3.");
        says("(Of several that which the call tells first; all these ahead of NONE.)");
        begin(KIN);
        refusedFor("likely(%, 0, 0)", -2, -1, 5, 6, Integer.MIN_VALUE, Integer.MAX_VALUE);
        refusedFor("likely(0, %, 0)", -2, -1, 4, 5, Integer.MIN_VALUE, Integer.MAX_VALUE);
        refusedFor("likely(0, 0, %)", -3, -1, 101, 102, Integer.MIN_VALUE, Integer.MAX_VALUE);
        refused("likely(5, 0, 101)", -2);
        refused("likely(0, 4, -1)", -2);
        due("it never comes", x.likely(1, 0, 1), -1);
        refused("likely(1, 0, 101)", -3);
    }

    // ---- 40: surest

    void promise40Greatest() {
        says("The PLACE, but where it is, from which CHANCE in n DAYS (0 to 15) is greatest, above 0, the first.");
        begin("places 4;person at 3;person at 0 away 5;person at 1 away 2;person at 2 away 2;minds : 1;");
        row("surest(0, %)", -1, 1, 1, 1, 1, 1);
        due("surest(0, 15)", 1);
        begin("places 4;person at 0;person at 1 away 9;person at 2 away 8;person at 3 away 9;minds : 1;sends : 0;");
        due("surest(0, 1)", 2);
        due("surest(0, 15)", 2);
        begin(KIN);
        due("surest(0, 1)", 3);
        begin(awayBy(9));
        due("1 in 10 is above 0", x.surest(0, 1), 0);
        begin(awayBy(10));
        due("0 isn't", x.surest(0, 15), -1);
    }

    void promise40None() {
        says("NONE: none; -2; -3.");
        says("all these ahead of NONE.)");
        begin(KIN);
        due("surest(0, 0)", -1);
        due("nobody minds 1", x.surest(1, 15), -1);
        refusedFor("surest(%, 0)", -2, -1, 5, 6, Integer.MIN_VALUE, Integer.MAX_VALUE);
        refusedFor("surest(0, %)", -3, -1, 16, 17, Integer.MIN_VALUE, Integer.MAX_VALUE);
        refusedFor("surest(1, %)", -3, -1, 16);
        refused("surest(5, 16)", -2);
    }
}
