/** Promises 19 to 27: where letters go, come, lie, go round, and by whose hands. */
final class WayPromises extends Promises {
    /** Letters to 5 go round a ring of so many places, from 0 on; the others lead into it. */
    private static String ringOf(int length) {
        return SIX + "minds : 1;sends : if at = " + (length - 1) + " then 0 else if at > " + (length - 1)
            + " then at - 1 else at + 1 end end;";
    }

    // ---- 19: lies

    void promise19InDays() {
        says("Where a LETTER to a PERSON lies in n DAYS (0 to 99,999), posted at a PLACE.");
        begin(LINE);
        row("lies(4, 1, %)", 1, 2, 3, 4, 4, 4, 4);
        due("lies(4, 1, 99999)", 4);
        due("lies(4, 4, 0)", 4);
        due("lies(4, 4, 99999)", 4);
        row("lies(2, 3, %)", 3, 4, 0, 1, 2, 2);
    }

    void promise19RoundRings() {
        says("Where a LETTER to a PERSON lies in n DAYS (0 to 99,999), posted at a PLACE.");
        for (int length = 2; length <= 5; length++) {
            begin(ringOf(length));
            for (int n = 0; n < 130; n++) {
                due("lies(5, 1, " + n + ")", (1 + n) % length);
            }
            for (int n = 99990; n <= 99999; n++) {
                due("lies(5, 1, " + n + ")", (1 + n) % length);
            }
        }
    }

    void promise19IntoRings() {
        says("PLACES that come again,");
        // From 4 to 3, 2, 1, then round 0 and 1.
        begin(ringOf(2));
        row("lies(5, 4, %)", 4, 3, 2, 1, 0, 1, 0, 1);
        for (int n = 3; n < 99999; n += 311) {
            due("lies(5, 4, " + n + ")", n % 2);
        }
        due("lies(5, 4, 99998)", 0);
        due("lies(5, 4, 99999)", 1);
    }

    void promise19NothingElse() {
        says("A WAY of a LETTER to a PERSON, from a PLACE: PLACES it lies at in 0, 1, 2 .. DAYS, "
            + "nothing else being done, nobody away (GIVEN, it stays).");
        begin("places 3;person at 2;person at 0 away 10;person at 1 away 10;minds : 1;sends : at + 1;");
        row("lies(0, 0, %)", 0, 1, 2, 2, 2);
        due("comes(0, 0)", 2);
        String before = all();
        due("lies(0, 0, 99999)", 2);
        due("nothing is done", all().equals(before) ? 1 : 0, 1);
        for (int i = 0; i < 6; i++) {
            x.mail(0, 0);
        }
        row("lies(0, 0, %)", 0, 1, 2, 2, 2);
    }

    void promise19AsItIsNow() {
        says("nothing else being done, nobody away (GIVEN, it stays).");
        begin(LINE);
        due("lies(4, 2, 9)", 4);
        due("move(4, 0)", 0);
        row("lies(4, 2, %)", 2, 3, 4, 4);
        due("move(3, 2)", 0);
        due("the first one there sends it", x.lies(4, 2, 1), 3);
        due("nobody is at 3", x.lies(4, 2, 9), 3);
    }

    void promise19Refused() {
        says("-2; -3.");
        says("(Of several that which the call tells first; all these ahead of NONE.)");
        begin(LINE);
        refusedFor("lies(%, 0, 0)", -2, -1, 5, 6, Integer.MIN_VALUE, Integer.MAX_VALUE);
        refusedFor("lies(0, %, 0)", -2, -1, 5, 6, Integer.MIN_VALUE, Integer.MAX_VALUE);
        refusedFor("lies(0, 0, %)", -3, -1, 100000, 100001, Integer.MIN_VALUE, Integer.MAX_VALUE);
        refused("lies(5, 0, -1)", -2);
        refused("lies(0, 5, 100000)", -2);
    }

    // ---- 20: comes

    void promise20InHowMany() {
        says("In how many DAYS it is GIVEN.");
        says("It COMES, if it is GIVEN some time;");
        begin(SIX + "minds : 1;sends : at + 1;");
        row("comes(5, %)", 5, 4, 3, 2, 1, 0);
        row("comes(0, %)", 0, 5, 4, 3, 2, 1);
    }

    void promise20None() {
        says("NONE: it doesn't COME; -2.");
        begin(RING);
        row("comes(3, %)", -1, -1, -1, 0, -1, 1);
        refusedFor("comes(%, 0)", -2, -1, 5, 6, Integer.MIN_VALUE, Integer.MAX_VALUE);
        refusedFor("comes(3, %)", -2, -1, 6, 7, Integer.MIN_VALUE, Integer.MAX_VALUE);
    }

    // ---- 21: ends

    void promise21How() {
        says("How it ends, what 0: 0 if it COMES, 1 if it LIES, 2 if it is in a RING;");
        says("else it comes to LIE at a PLACE for ever, or into a RING:");
        begin(RING);
        row("ends(3, %, 0)", 2, 2, 1, 0, 1, 0);
        begin(LINE);
        row("ends(0, %, 0)", 0, 0, 0, 0, 0);
    }

    void promise21Length() {
        says("1: the RING's length (1, if there is none),");
        says("PLACES that come again, each so many DAYS (its length, 2 at least).");
        begin(RING);
        row("ends(3, %, 1)", 2, 2, 1, 1, 1, 1);
        for (int length = 2; length <= 5; length++) {
            begin(ringOf(length));
            due("ring of " + length, x.ends(5, 0, 1), length);
            due("ring of " + length, x.ends(5, 4, 1), length);
            due("where it is", x.ends(5, 5, 1), 1);
        }
    }

    void promise21FirstThere() {
        says("2: in how many DAYS it is first where it stays, or in the RING, 3: that PLACE.");
        begin(RING);
        row("ends(3, %, 2)", 0, 0, 0, 0, 0, 1);
        row("ends(3, %, 3)", 0, 1, 2, 3, 4, 3);
        // From 4 to 3, 2, 1, then round 0 and 1.
        begin(ringOf(2));
        row("ends(5, %, 2)", 0, 0, 1, 2, 3, 0);
        row("ends(5, %, 3)", 0, 1, 1, 1, 1, 5);
        begin(SIX + "minds : 1;sends : at + 1;");
        row("ends(5, %, 2)", 5, 4, 3, 2, 1, 0);
        row("ends(5, %, 3)", 5, 5, 5, 5, 5, 5);
        // To lie at 4: from 0 on, one more each day.
        begin(SIX + "minds : 1;sends : if at = 4 then 4 else at + 1 end;");
        row("ends(5, %, 2)", 4, 3, 2, 1, 0, 0);
        row("ends(5, %, 3)", 4, 4, 4, 4, 4, 5);
        row("ends(5, %, 0)", 1, 1, 1, 1, 1, 0);
    }

    void promise21Refused() {
        says("-2: also what.");
        begin(RING);
        refusedFor("ends(%, 0, 0)", -2, -1, 5, 6, Integer.MIN_VALUE, Integer.MAX_VALUE);
        refusedFor("ends(3, %, 0)", -2, -1, 6, 7, Integer.MIN_VALUE, Integer.MAX_VALUE);
        refusedFor("ends(3, 0, %)", -2, -1, 4, 5, Integer.MIN_VALUE, Integer.MAX_VALUE);
    }

    // ---- 22: hands

    void promise22ByWhom() {
        says("By whom it gets from one PLACE to another one on its WAY (till it stays, or is round the RING), "
            + "as bits.");
        begin(KIN);
        row("hands(0, %)", 0, 4 + 16, 8 + 16, 16);
        begin(SIX + "minds : 1;sends : at + 1;");
        row("hands(5, %)", 31, 30, 28, 24, 16, 0);
    }

    void promise22RoundTheRing() {
        says("(till it stays, or is round the RING)");
        begin(RING);
        row("hands(3, %)", 3, 3, 0, 0, 0, 16);
        begin(ringOf(2));
        row("hands(5, %)", 3, 3, 4 + 3, 8 + 4 + 3, 16 + 8 + 4 + 3, 0);
        begin(ringOf(5));
        row("hands(5, %)", 31, 31, 31, 31, 31, 0);
    }

    void promise22KeptIsNotSent() {
        says("By whom it gets from one PLACE to another one on its WAY");
        begin(SIX + "minds : 1;sends : if at = 4 then 4 else at + 1 end;");
        row("hands(5, %)", 15, 14, 12, 8, 0, 0);
    }

    void promise22Refused() {
        says("-2.");
        begin(RING);
        refusedFor("hands(%, 0)", -2, -1, 5, 6, Integer.MIN_VALUE, Integer.MAX_VALUE);
        refusedFor("hands(3, %)", -2, -1, 6, 7, Integer.MIN_VALUE, Integer.MAX_VALUE);
    }

    // ---- 23: sources

    void promise23Places() {
        says("PLACES from which it COMES, as bits.");
        begin(RING);
        due("where it is, too", x.sources(3), 8 + 32);
        begin(SIX + "minds : 1;sends : at + 1;");
        row("sources(%)", 63, 63, 63, 63, 63, 63);
        begin(SIX);
        row("sources(%)", 1, 2, 4, 8, 16, 32);
    }

    void promise23Refused() {
        says("-2.");
        begin(RING);
        refusedFor("sources(%)", -2, -1, 5, 6, Integer.MIN_VALUE, Integer.MAX_VALUE);
    }

    // ---- 24: soonest

    void promise24Soonest() {
        says("The PLACE, but where it is, from which it COMES soonest, the first.");
        begin(SIX + "minds : 1;sends : at + 1;");
        row("soonest(%)", 5, 0, 1, 2, 3, 4);
        begin(SIX + "minds : 1;sends : 3;");
        due("of like ones", x.soonest(3), 0);
        begin(SIX + "minds : if who > 3 then 1 else 0 end;sends : 3;");
        due("soonest(3)", 4);
    }

    void promise24None() {
        says("NONE: none; -2.");
        begin(SIX);
        row("soonest(%)", -1, -1, -1, -1, -1, -1);
        refusedFor("soonest(%)", -2, NO_PERSONS);
    }

    // ---- 25: rings

    void promise25HowMany() {
        says("How many RINGS LETTERS to it can come into.");
        begin(RING);
        due("rings(3)", 1);
        due("it is in the ring: 1 sends to where it is", x.rings(0), 0);
        due("nobody at 1 but itself", x.rings(1), 0);
        // Rings 0, 1 and 2, 3; 4 sends to 5 and 5 to 0.
        begin(SIX + "minds : 1;sends : if at = 1 or at = 3 then at - 1 else at + 1 end;");
        due("rings(4)", 2);
        due("rings(5)", 2);
        due("rings(0)", 1);
        due("rings(3)", 1);
        begin(SIX + "minds : 1;sends : at;");
        due("lying is no ring", x.rings(5), 0);
        for (int length = 2; length <= 5; length++) {
            begin(ringOf(length));
            due("of " + length, x.rings(5), 1);
        }
    }

    void promise25Refused() {
        says("-2.");
        begin(SIX);
        refusedFor("rings(%)", -2, NO_PERSONS);
    }

    // ---- 26: offices

    void promise26Places() {
        says("PLACES at which LETTERS to it would LIE, as bits.");
        begin(RING);
        due("kept, and nobody there", x.offices(3), 4 + 16);
        begin(SIX);
        row("offices(%)", 62, 61, 59, 55, 47, 31);
        begin(SIX + "minds : 1;sends : at + 1;");
        row("offices(%)", 0, 0, 0, 0, 0, 0);
    }

    void promise26Refused() {
        says("-2.");
        begin(SIX);
        refusedFor("offices(%)", -2, NO_PERSONS);
    }

    // ---- 27: needed

    void promise27Each() {
        says("Others each of whom, if it sent no LETTERS at all, would keep it from COMING, as bits");
        begin(KIN);
        row("needed(0, %)", 0, 4 + 16, 8 + 16, 16);
        begin(SIX + "minds : 1;sends : at + 1;");
        row("needed(5, %)", 31, 30, 28, 24, 16, 0);
    }

    void promise27NextOneSends() {
        says("if it sent no LETTERS at all,");
        begin("places 3;person at 2;person at 0;person at 0;cares 1 for 0 3;cares 2 for 0 2;");
        due("another one would", x.needed(0, 0), 0);
        begin("places 3;person at 2;person at 0;person at 0;cares 1 for 0 3;cares 2 for 0 2;sends : 3 - who;");
        due("another one would send it elsewhere", x.needed(0, 0), 2);
        begin("places 3;person at 2;person at 0;person at 0;person at 1;cares 1 for 0 3;cares 2 for 0 2;"
            + "cares 3 for 0 1;sends : if who = 2 then 1 else 2 end;");
        due("another one, by another way", x.needed(0, 0), 0);
    }

    void promise27DoesNotAnyhow() {
        says("(0: it doesn't anyhow).");
        begin(RING);
        row("needed(3, %)", 0, 0, 0, 0, 0, 16);
    }

    void promise27Refused() {
        says("-2.");
        begin(SIX);
        refusedFor("needed(%, 0)", -2, NO_PERSONS);
        refusedFor("needed(0, %)", -2, NO_PERSONS);
    }
}
