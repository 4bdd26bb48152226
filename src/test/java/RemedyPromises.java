/** Promises 28 to 31: so that it comes, and so that it doesn't. */
final class RemedyPromises extends Promises {
    private static final String KEPT = "places 3;person at 2;person at 0;person at 0;cares 1 for 0 5;cares 2 for 0 1;"
        + "sends : if who = 2 then 2 else 0 end;";
    private static final String ALL_AWAY = "places 6;" + "person at 5;".repeat(6) + "minds : 1;sends : at + 1;";

    // ---- 28: moves

    void promise28Fewest() {
        says("MOVES: PEOPLE (not the one to whom it is) MOVED now, each to another PLACE, so that it COMES: "
            + "the fewest,");
        says("MOVES, what 0: how many, 10 + q: where PERSON q is then (it to whom it is, too).");
        begin(ALL_AWAY);
        row("moves(0, %, 0)", 5, 4, 3, 2, 1, 0);
        row("moves(0, 0, 1%)", 5, 0, 1, 2, 3, 4);
        row("moves(0, 3, 1%)", 5, 3, 4, 5, 5, 5);
        row("moves(0, 5, 1%)", 5, 5, 5, 5, 5, 5);
        row("moves(5, 0, 1%)", 0, 1, 2, 3, 4, 5);
        due("nothing is moved", x.person(1, 0), 5);
        due("count(6)", 0);
    }

    void promise28FirstByPlaces() {
        says("of like ones the first by PLACES of all, PERSON by PERSON.");
        begin("places 4;person at 3;person at 0;person at 1;minds : 1;sends : 3;");
        due("moves(0, 2, 0)", 1);
        // That 1 stays at 0 is ahead of that it moves to 2.
        row("moves(0, 2, 1%)", 3, 0, 2);
        begin("places 4;person at 3;person at 1;person at 2;minds : 1;sends : 3;");
        row("moves(0, 0, 1%)", 3, 0, 2);
    }

    void promise28InTheWay() {
        says("MOVED now, each to another PLACE, so that it COMES:");
        begin(KEPT);
        due("moves(0, 0, 0)", 1);
        row("moves(0, 0, 1%)", 2, 1, 0);
        due("moves(0, 1, 0)", 1);
        row("moves(0, 1, 1%)", 2, 0, 1);
    }

    void promise28MindsMore() {
        says("MOVED now, each to another PLACE, so that it COMES:");
        begin("places 3;person at 2;person at 1;person at 1;person at 0;cares 1 for 0 2;cares 2 for 0 2;"
            + "cares 3 for 0 1;sends : if who = 3 then 0 else 2 end;");
        due("moves(0, 0, 0)", 1);
        row("moves(0, 0, 1%)", 2, 0, 1, 0);
        due("none needed", x.moves(0, 1, 0), 0);
        row("moves(0, 1, 1%)", 2, 1, 1, 0);
        begin("places 3;person at 1;person at 2;cares 0 for 1 1;");
        due("person 0, too", x.moves(1, 0, 0), 1);
        row("moves(1, 0, 1%)", 0, 2);
    }

    void promise28None() {
        says("NONE: none do;");
        says("(not the one to whom it is)");
        // If 0 itself moved to 0 it would come.
        begin("places 3;person at 2;person at 0;person at 1;minds : 1;sends : 0;");
        row("moves(0, %, 0)", -1, -1, 0);
        row("moves(0, 0, 1%)", -1, -1, -1);
        begin(SIX);
        row("moves(0, %, 0)", 0, -1, -1, -1, -1, -1);
        begin("places 3;person at 2;person at 0;minds : 1;sends : at + 1;");
        // One alone can't send it twice.
        row("moves(0, %, 0)", -1, 1, 0);
        begin("places 2;person at 1;");
        row("moves(0, %, 0)", -1, 0);
        due("moves(0, 0, 10)", -1);
        due("moves(0, 1, 10)", 1);
    }

    void promise28Refused() {
        says("-2: what (10 and a PERSON), the PERSON, the PLACE.");
        says("all these ahead of NONE.)");
        begin(KEPT);
        refusedFor("moves(0, 0, %)", -2, -1, 1, 2, 9, 13, 14, 16, Integer.MIN_VALUE, Integer.MAX_VALUE,
            Integer.MIN_VALUE + 9, Integer.MIN_VALUE + 10);
        refusedFor("moves(%, 0, 0)", -2, -1, 3, 6, Integer.MIN_VALUE, Integer.MAX_VALUE);
        refusedFor("moves(0, %, 0)", -2, -1, 3, 6, Integer.MIN_VALUE, Integer.MAX_VALUE);
        due("nobody minds 1", x.moves(1, 1, 0), -1);
        refusedFor("moves(1, 1, %)", -2, 1, 9, 13);
    }

    // ---- 29: feeling

    void promise29Least() {
        says("FEELING: CARES for it AROUSED now (for each so often), so that it COMES: the least together,");
        says("FEELING, what 0: how much, 10 + q: how often PERSON q is AROUSED (itself: 0).");
        begin(KEPT);
        due("feeling(0, 0, 0)", 5);
        row("feeling(0, 0, 1%)", 0, 0, 5);
        due("none needed", x.feeling(0, 2, 0), 0);
        row("feeling(0, 2, 1%)", 0, 0, 0);
        due("nobody is there", x.feeling(0, 1, 0), -1);
        due("nothing is aroused", x.cares(2, 0), 1);
        due("count(6)", 0);
        begin("places 3;person at 0;person at 1;person at 2;minds : cares - 2;sends : at + 1;");
        due("feeling(2, 0, 0)", 6);
        row("feeling(2, 0, 1%)", 3, 3, 0);
        due("feeling(2, 1, 0)", 3);
        row("feeling(2, 1, 1%)", 0, 3, 0);
    }

    void promise29SixPeople() {
        says("10 + q: how often PERSON q is AROUSED (itself: 0).");
        begin("places 2;person at 1;" + "person at 0;".repeat(5) + "minds : if who = 5 then cares - 8 else 0 end;");
        due("feeling(0, 0, 0)", 9);
        row("feeling(0, 0, 1%)", 0, 0, 0, 0, 0, 9, -2);
        begin("places 2;" + "person at 0;".repeat(5) + "person at 1;cares 0 for 5 9;minds : cares - 3;sends : at;");
        due("feeling(5, 0, 0)", -1);
        begin("places 2;" + "person at 0;".repeat(5) + "person at 1;minds : if who = 0 then cares - 1 else 0 end;");
        row("feeling(5, 0, 1%)", 2, 0, 0, 0, 0, 0);
    }

    void promise29Itself() {
        says("(itself: 0)");
        begin(KEPT);
        due("feeling(0, 0, 12)", 5);
        due("of another letter", x.feeling(2, 0, 12), 0);
    }

    void promise29NineAtMost() {
        says("FEELING: CARES for it AROUSED now");
        begin("places 3;person at 0;person at 1;person at 2;cares 0 for 2 9;"
            + "minds : if who = 1 then 5 else cares - 9 end;sends : 2;");
        due("0 can't be aroused", x.feeling(2, 0, 0), -1);
        begin("places 3;person at 0;person at 1;person at 2;cares 0 for 2 8;"
            + "minds : if who = 1 then 5 else cares - 9 end;sends : 2;");
        due("0 only once", x.feeling(2, 0, 0), -1);
        begin("places 3;person at 0;person at 1;person at 2;cares 0 for 2 8;minds : cares - 8;sends : 2;");
        due("feeling(2, 0, 0)", 1);
        due("feeling(2, 0, 10)", 1);
    }

    void promise29MindingLess() {
        says("CARES for it AROUSED now (for each so often), so that it COMES:");
        // 1 keeps it while it minds as much as 2, and minds less the more it cares.
        begin("places 3;person at 2;person at 0;person at 0;cares 2 for 0 2;minds : 5 - cares;"
            + "sends : if who = 1 then 0 else 2 end;");
        due("feeling(0, 0, 0)", 3);
        row("feeling(0, 0, 1%)", 0, 3, 0);
    }

    void promise29FirstOfLikeOnes() {
        says("of like ones the first, PERSON by PERSON (less for PERSON 0 first).");
        begin("places 2;person at 0;person at 1;person at 0;person at 0;minds : cares;sends : 1;");
        due("feeling(1, 0, 0)", 1);
        row("feeling(1, 0, 1%)", 0, 0, 0, 1);
        begin("places 2;person at 0;person at 1;person at 0;minds : if cares = 9 then 1 else 0 end;sends : 1;");
        due("feeling(1, 0, 0)", 9);
        row("feeling(1, 0, 1%)", 0, 0, 9);
    }

    void promise29None() {
        says("NONE: none up to 9 together;");
        begin("places 3;person at 0;person at 1;person at 2;minds : cares - 4;sends : at + 1;");
        due("ten together", x.feeling(2, 0, 0), -1);
        row("feeling(2, 0, 1%)", -1, -1, -1);
        due("arouse(1, 2)", 1);
        due("nine together", x.feeling(2, 0, 0), 9);
        row("feeling(2, 0, 1%)", 5, 4, 0);
        begin("places 2;person at 0;person at 1;minds : cares - 8;sends : 1;");
        due("nine of one", x.feeling(1, 0, 0), 9);
        due("feeling(1, 0, 10)", 9);
        begin("places 2;person at 0;person at 1;minds : cares - 9;sends : 1;");
        due("one cares 9 at most", x.feeling(1, 0, 0), -1);
        begin("places 2;person at 0;person at 1;cares 0 for 1 3;minds : cares - 9;sends : 1;");
        due("one cares 9 at most", x.feeling(1, 0, 0), -1);
    }

    void promise29Refused() {
        says("-2 likewise.");
        says("all these ahead of NONE.)");
        begin(KEPT);
        refusedFor("feeling(0, 0, %)", -2, -1, 1, 2, 9, 13, 14, 16, Integer.MIN_VALUE, Integer.MAX_VALUE,
            Integer.MIN_VALUE + 9, Integer.MIN_VALUE + 10);
        refusedFor("feeling(%, 0, 0)", -2, -1, 3, 6, Integer.MIN_VALUE, Integer.MAX_VALUE);
        refusedFor("feeling(0, %, 0)", -2, -1, 3, 6, Integer.MIN_VALUE, Integer.MAX_VALUE);
        refusedFor("feeling(0, 1, %)", -2, 1, 9, 13);
    }

    // ---- 30: found

    void promise30FromMost() {
        says("The PLACE to which the PERSON itself would MOVE so that it COMES from most PLACES, "
            + "the first (where it is, too).");
        begin("places 4;person at 0;person at 1;person at 2;person at 3;minds : 1;sends : 2;");
        row("found(%)", 2, 2, 2, 2);
        begin(SIX);
        row("found(%)", 0, 0, 0, 0, 0, 0);
        begin(LINE);
        row("found(%)", 0, 1, 2, 3, 4);
        due("nobody moves", x.person(1, 0), 1);
    }

    void promise30Refused() {
        says("-2.");
        begin(SIX);
        refusedFor("found(%)", -2, NO_PERSONS);
        refusedFor("hides(%)", -2, NO_PERSONS);
    }

    // ---- 31: hides

    void promise31FromFewest() {
        says("So that it COMES from fewest.");
        begin("places 4;person at 0;person at 1;person at 2;person at 3;minds : 1;sends : 2;");
        row("hides(%)", 0, 0, 0, 0);
        begin(SIX);
        row("hides(%)", 0, 0, 0, 0, 0, 0);
        // Letters to 0 come to lie at 0 if they don't meet it: at 1 it is found from 1 alone.
        begin(LINE);
        due("hides(0)", 1);
        due("hides(1)", 2);
        due("hides(4)", 0);
        begin("places 3;person at 0;person at 1;person at 2;minds : 1;sends : 0;");
        due("not the first", x.hides(0), 1);
    }

    void promise31Refused() {
        says("-2.");
        begin(KIN);
        refusedFor("hides(%)", -2, NO_PERSONS);
        refused("hides(5)", -2);
        due("hides(4)", 0);
    }
}
