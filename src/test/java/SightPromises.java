/** Promises 32 to 35: by where letters went. */
final class SightPromises extends Promises {
    private static final long FAR = 1L << 32;

    // ---- 32: seen

    void promise32WhereItCanBe() {
        says("SEEN: where a PERSON can be, as bits.");
        says("where the PERSON to whom it is can be;");
        begin(KIN);
        tray(0, 1, 3, 0);
        due("at 0, or at 2, which it doesn't come by", x.seen(0, 0, 1), 1 + 4);
        tray(0, 1, 1);
        due("at 1", x.seen(0, 0, 1), 2);
        tray(0, 2);
        due("it wasn't posted there", x.seen(0, 0, 1), 0);
        tray(0, 1);
        due("anywhere", x.seen(0, 0, 1), 15);
        due("nobody is moved", x.person(0, 0), 0);
    }

    void promise32NotSeen() {
        says("SEEN in a TRAY (1 to 12 numbers: PLACES of one WAY in 0, 1, 2 .. DAYS; NONE: not seen):");
        begin(KIN);
        tray(0, 1, -1, 3);
        due("seen(0, 0, 1)", 8);
        tray(0, -1);
        due("seen(0, 0, 1)", 15);
        tray(0, -1, -1, 0);
        due("seen(0, 0, 1)", 5);
        due("numbers(0, 0, 2)", 0);
        due("write(0, 0, 255)", -1);
        due("write(0, 1, 3)", 3);
        due("cut to NONE", x.seen(0, 0, 1), 1 + 4 + 8);
    }

    void promise32OneToTwelve() {
        says("-4: not 1 to 12 numbers;");
        says("-4 too many;");
        begin(KIN);
        for (int n = 0; n <= 40; n++) {
            long[] none = new long[n];
            for (int i = 0; i < n; i++) {
                none[i] = i == 11 ? 0 : -1;
            }
            tray(0, none);
            if (n == 0 || n > 12) {
                refused("seen(0, 0, 1)", -4);
            } else {
                due("seen(0, 0, 1) by " + n, x.seen(0, 0, 1), n == 12 ? 5 : 15);
            }
        }
    }

    void promise32NoPlace() {
        says("-3: one is no PLACE, nor NONE.");
        begin(KIN);
        for (long v : new long[] {4, 5, 6, 100, -2, -3, FAR, FAR - 1, -FAR, Long.MIN_VALUE, Long.MAX_VALUE}) {
            tray(0, v);
            refused("seen(0, 0, 1)", -3);
            tray(0, 2, 2, v);
            refused("seen(0, 0, 1)", -3);
        }
        tray(0, -1, -1, -1, -1, -1, -1, -1, -1, -1, -1, -1, 4);
        refused("seen(0, 0, 1)", -3);
    }

    void promise32Refused() {
        says("-2: the TRAY, the PERSON, the PLACE; -6;");
        begin(KIN);
        tray(0, 1);
        refusedFor("seen(%, 0, 1)", -2, -1, 4, 5, Integer.MIN_VALUE, Integer.MAX_VALUE);
        refusedFor("seen(0, %, 1)", -2, -1, 5, 6, Integer.MIN_VALUE, Integer.MAX_VALUE);
        refusedFor("seen(0, 0, %)", -2, -1, 4, 5, Integer.MIN_VALUE, Integer.MAX_VALUE);
        refusedFor("seen(%, 0, 1)", -6, 1, 2, 3);
    }

    void promise32FirstTold() {
        says("(Of several that which the call tells first; all these ahead of NONE.)");
        begin(KIN);
        refused("seen(3, 5, 1)", -2);
        refused("seen(3, 0, 4)", -2);
        tray(0);
        refused("seen(0, 5, 1)", -2);
        tray(0, 9, 9, 9, 9, 9, 9, 9, 9, 9, 9, 9, 9, 9);
        refused("seen(0, 0, 1)", -4);
        refused("seen(0, 0, 4)", -2);
        tray(0, 9);
        refused("seen(0, 0, 4)", -2);
    }

    // ---- 33: probe

    void promise33Least() {
        says("The PLACE at which to post a LETTER to it next, looked for in n DAYS (1 to 9): the greatest number of "
            + "PLACES where it can be (by the TRAY) by which it lies at one and the same PLACE then is least, "
            + "the first.");
        begin(KIN);
        tray(0, 1, 3, 0);
        // At 0 or 2: from 2 alone it tells which.
        due("probe(0, 0, 1, 1)", 2);
        due("probe(0, 0, 1, 9)", 2);
        tray(0, 1, -1, 3);
        due("one place is left: the first", x.probe(0, 0, 1, 1), 0);
    }

    void promise33InDays() {
        says("looked for in n DAYS (1 to 9):");
        // With 0 anywhere: at 0 nobody else is; from 1 on it goes by all places till it meets 0.
        begin(LINE);
        tray(0, -1);
        due("probe(0, 0, 1, 9)", 1);
        due("in a day: four of five alike from 1 on", x.probe(0, 0, 4, 1), 1);
        // From 4 it comes to 0 at once, from 3 in two days: there it meets 0 at 3, 4 or 0.
        due("probe(0, 0, 4, 2)", 1);
        begin("places 4;person at 0;person at 3;person at 2;person at 1;minds : 1;sends : at - 1;");
        tray(0, -1);
        // From 3 by 2 and 1 to 0: in one day two sorts, in two days three, in three days four.
        due("probe(0, 0, 0, 1)", 1);
        due("probe(0, 0, 0, 2)", 2);
        due("probe(0, 0, 0, 3)", 3);
        due("probe(0, 0, 0, 9)", 3);
    }

    void promise33Nowhere() {
        says("NONE: it can be nowhere; as seen(); -3: also n.");
        begin(KIN);
        tray(0, 2);
        due("probe(0, 0, 1, 1)", -1);
        due("probe(0, 0, 1, 9)", -1);
        refusedFor("probe(0, 0, 1, %)", -3, 0, -1, 10, 11, Integer.MIN_VALUE, Integer.MAX_VALUE);
        tray(0, 1);
        refusedFor("probe(0, 0, 1, %)", -3, 0, -1, 10, 11, Integer.MIN_VALUE, Integer.MAX_VALUE);
        tray(0, 4);
        refused("probe(0, 0, 1, 1)", -3);
        tray(0, -2);
        refused("probe(0, 0, 1, 1)", -3);
    }

    void promise33AsSeen() {
        says("as seen();");
        begin(KIN);
        tray(0, 1);
        refusedFor("probe(%, 0, 1, 1)", -2, -1, 4, 5, Integer.MIN_VALUE, Integer.MAX_VALUE);
        refusedFor("probe(0, %, 1, 1)", -2, -1, 5, 6, Integer.MIN_VALUE, Integer.MAX_VALUE);
        refusedFor("probe(0, 0, %, 1)", -2, -1, 4, 5, Integer.MIN_VALUE, Integer.MAX_VALUE);
        refusedFor("probe(%, 0, 1, 1)", -6, 1, 2, 3);
        refused("probe(3, 0, 1, 0)", -6);
        refused("probe(3, 5, 1, 0)", -2);
        tray(0);
        refused("probe(0, 0, 1, 0)", -4);
        refused("probe(0, 0, 1, 1)", -4);
        tray(0, 1, 1, 1, 1, 1, 1, 1, 1, 1, 1, 1, 1, 1);
        refused("probe(0, 0, 1, 1)", -4);
    }

    // ---- 34: heart

    void promise34HowMuch() {
        says("SEEN: how much a PERSON q can CARE for the one to whom it is, as bits.");
        says("or, CARES 0 to 9 of one for it, so that the WAY (from a told PLACE) is so (all else as it is).");
        begin(KIN);
        tray(0, 1, 1);
        due("1, who keeps it, 7 to 9", x.heart(0, 0, 1, 1), 128 + 256 + 512);
        due("2, who sends it, 0 to 5", x.heart(0, 0, 1, 2), 63);
        due("3, who isn't there", x.heart(0, 0, 1, 3), 0);
        tray(0, 1, 3, 0);
        due("as it is, too", x.heart(0, 0, 1, 2), 64 + 128 + 256 + 512);
        due("one who isn't there", x.heart(0, 0, 1, 3), 1023);
        due("4 has to care", x.heart(0, 0, 1, 4), 1022);
        due("nothing is changed", x.cares(2, 0), 7);
    }

    void promise34ByTheLaw() {
        says("CARES 0 to 9 of one for it,");
        begin("places 2;person at 1;person at 0;cares 1 for 0 5;minds : if cares = 4 or cares = 9 then 0 else 1 end;");
        tray(0, 0, 0);
        due("heart(0, 0, 0, 1)", 16 + 512);
        tray(0, 0, 1);
        due("heart(0, 0, 0, 1)", 1023 - 16 - 512);
    }

    void promise34Refused() {
        says("-2: the TRAY, PEOPLE, both one, the PLACE; -6; -4; -3.");
        begin(KIN);
        tray(0, 1);
        refusedFor("heart(%, 0, 1, 1)", -2, -1, 4, 5, Integer.MIN_VALUE, Integer.MAX_VALUE);
        refusedFor("heart(0, %, 1, 1)", -2, -1, 5, 6, 1, Integer.MIN_VALUE, Integer.MAX_VALUE);
        refusedFor("heart(0, 0, 1, %)", -2, -1, 5, 6, 0, Integer.MIN_VALUE, Integer.MAX_VALUE);
        refusedFor("heart(0, 0, %, 1)", -2, -1, 4, 5, Integer.MIN_VALUE, Integer.MAX_VALUE);
        refusedFor("heart(%, 0, 1, 1)", -6, 1, 2, 3);
        refused("heart(3, 0, 1, 0)", -2);
        tray(0);
        refused("heart(0, 0, 1, 1)", -4);
        refused("heart(0, 0, 1, 0)", -2);
        tray(0, 9, 9, 9, 9, 9, 9, 9, 9, 9, 9, 9, 9, 9);
        refused("heart(0, 0, 1, 1)", -4);
        tray(0, 4);
        refused("heart(0, 0, 1, 1)", -3);
        tray(0, -2);
        refused("heart(0, 0, 1, 1)", -3);
    }

    // ---- 35: suspects

    void promise35EachAlone() {
        says("PEOPLE q by each of whom, CARING otherwise, the WAY could be so, if it isn't, as bits");
        begin(KIN);
        tray(0, 1, 1);
        due("1 caring more, 2 caring less", x.suspects(0, 0, 1), 2 + 4);
        tray(0, 1, 3, 3);
        due("4 not caring", x.suspects(0, 0, 1), 16);
        tray(0, 2);
        due("nobody could", x.suspects(0, 0, 1), 0);
        tray(0, 3, 3);
        due("from 3", x.suspects(0, 0, 3), 16);
        tray(0, 1, 1, 3);
        due("not kept for a day alone", x.suspects(0, 0, 1), 0);
        begin("places 2;person at 0;person at 1;cares 0 for 1 3;");
        tray(0, 0, 0);
        due("person 0, too", x.suspects(0, 1, 0), 1);
    }

    void promise35ItIsSo() {
        says("(0: it is so).");
        begin(KIN);
        tray(0, 1, 3, 0, 0);
        due("suspects(0, 0, 1)", 0);
        tray(0, -1);
        due("suspects(0, 0, 1)", 0);
    }

    void promise35AsSeen() {
        says("As seen().");
        begin(KIN);
        tray(0, 1);
        refusedFor("suspects(%, 0, 1)", -2, -1, 4, 5, Integer.MIN_VALUE, Integer.MAX_VALUE);
        refusedFor("suspects(0, %, 1)", -2, -1, 5, 6, Integer.MIN_VALUE, Integer.MAX_VALUE);
        refusedFor("suspects(0, 0, %)", -2, -1, 4, 5, Integer.MIN_VALUE, Integer.MAX_VALUE);
        refusedFor("suspects(%, 0, 1)", -6, 1, 2, 3);
        refused("suspects(3, 5, 1)", -2);
        tray(0);
        refused("suspects(0, 0, 1)", -4);
        tray(0, 9, 9, 9, 9, 9, 9, 9, 9, 9, 9, 9, 9, 9);
        refused("suspects(0, 0, 1)", -4);
        tray(0, 4);
        refused("suspects(0, 0, 1)", -3);
        tray(0, -2);
        refused("suspects(0, 0, 1)", -3);
    }
}
