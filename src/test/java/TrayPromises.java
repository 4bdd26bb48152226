/** Promises 41 to 46: trays, images, counts. */
final class TrayPromises extends Promises {

    // ---- 41: numbers

    void promise41AllNought() {
        says("A TRAY has n numbers of a sort, all 0 (in place of another one): 0.");
        begin(KIN);
        tray(0, 1, 1, 1);
        due("numbers(0, 3, 5)", 0);
        due("five letters to 0 at 0, all given", x.judge(0, 2), 31);
        due("write(0, 4, 1)", 1);
        due("numbers(0, 3, 5)", 0);
        due("all 0 again", x.judge(0, 2), 31);
        due("numbers(0, 3, 2)", 0);
        due("judge(0, 2)", 3);
        due("numbers(0, 3, 0)", 0);
        due("judge(0, 2)", 0);
        due("numbers(0, 3, 5)", 0);
        due("judge(0, 2)", 31);
    }

    void promise41FortyNought() {
        says("all 0 (in place of another one): 0.");
        begin(KIN);
        for (int last : new int[] {0, 38, 39}) {
            due("numbers(0, 3, 40)", 0);
            due("write(0, " + last + ", 1)", 1);
            due("numbers(0, 3, 40)", 0);
            for (int i = 0; i < 40; i++) {
                due("days, but for that one", i == last ? -1 : x.write(0, i, -1), -1);
            }
            due("it is 0: a letter to 0 at 0", x.judge(0, 2), 1);
        }
    }

    void promise41SortInPlaceOfAnother() {
        says("numbers of a sort,");
        says("or have 0 to 40 numbers of 8 bits (sort 0), 16 (1), 32 (2), 64 (3).");
        long v = 0x123456789abcdef0L;
        long[] cut = {-0x10, -0x2110, -0x65432110L, v};
        for (int was = 0; was < 4; was++) {
            for (int sort = 0; sort < 4; sort++) {
                due("numbers(0, " + was + ", 2)", 0);
                due("numbers(0, " + sort + ", 2)", 0);
                due("write(0, 1, " + v + ")", cut[sort]);
            }
        }
    }

    void promise41EachTrayByItself() {
        says("TRAYS 0 to 3 are MISSING at first, or have 0 to 40 numbers");
        for (int t = 0; t < 4; t++) {
            refused("write(" + t + ", 0, 1)", -6);
            due("numbers(" + t + ", 3, " + 10 * t + ")", 0);
            refused("write(" + t + ", " + 10 * t + ", 1)", -7);
            due("write(" + t + ", " + (10 * t - 1) + ", 1)", t == 0 ? -7 : 1);
        }
        due("numbers(3, 3, 40)", 0);
        due("write(3, 39, 5)", 5);
        due("write(2, 19, 6)", 6);
        refused("write(2, 20, 6)", -7);
    }

    void promise41Refused() {
        says("-2: no such TRAY, sort; -3, and the TRAY stays: n is below 0 or above 40.");
        begin(KIN);
        tray(0, 1, 0);
        refusedFor("numbers(%, 0, 1)", -2, -1, 4, 5, Integer.MIN_VALUE, Integer.MAX_VALUE);
        refusedFor("numbers(0, %, 1)", -2, -1, 4, 5, Integer.MIN_VALUE, Integer.MAX_VALUE);
        refusedFor("numbers(0, 0, %)", -3, -1, 41, 42, Integer.MIN_VALUE, Integer.MAX_VALUE);
        due("its numbers stay", x.judge(0, 2), 2);
        due("its sort stays", x.write(0, 1, 1000), 1000);
        refused("write(0, 2, 0)", -7);
        refusedFor("numbers(1, 0, %)", -3, -1, 41);
        refused("write(1, 0, 0)", -6);
        refused("numbers(4, 0, 41)", -2);
        refused("numbers(0, 4, 41)", -2);
        due("numbers(0, 0, 40)", 0);
        due("write(0, 39, 1)", 1);
    }

    // ---- 42: write

    void promise42Cut() {
        says("Number i of a TRAY is v, cut to its sort: as it is there.");
        long[] highest = {0x7f, 0x7fff, 0x7fffffff, Long.MAX_VALUE};
        for (int sort = 0; sort < 4; sort++) {
            long high = highest[sort];
            due("numbers(0, " + sort + ", 3)", 0);
            due("write(0, 0, " + high + ")", high);
            due("write(0, 2, " + (high + 1) + ")", -high - 1);
            due("write(0, 1, " + (-high - 1) + ")", -high - 1);
            due("write(0, 1, " + (-high - 2) + ")", high);
            due("write(0, 1, -1)", -1);
            due("write(0, 1, 0)", 0);
            due("write(0, 1, " + Long.MIN_VALUE + ")", sort == 3 ? Long.MIN_VALUE : 0);
            due("write(0, 1, " + Long.MAX_VALUE + ")", sort == 3 ? Long.MAX_VALUE : -1);
        }
    }

    void promise42OneAlone() {
        says("Number i of a TRAY is v,");
        begin(KIN);
        tray(0, 0, 0, 0);
        tray(1, 0, 0, 0);
        due("write(0, 1, 2)", 2);
        due("judge(0, 2)", 1 + 4);
        due("judge(1, 2)", 7);
        due("the later one strikes", x.write(0, 1, 0), 0);
        due("judge(0, 2)", 7);
    }

    void promise42Refused() {
        says("-2: no such TRAY; -6; -7.");
        says("-7 it has no such number;");
        begin(KIN);
        tray(0, 1, 0);
        refusedFor("write(%, 0, 5)", -2, -1, 4, 5, Integer.MIN_VALUE, Integer.MAX_VALUE);
        refusedFor("write(%, 0, 5)", -6, 1, 2, 3);
        refusedFor("write(0, %, 5)", -7, -1, 2, 40, Integer.MIN_VALUE, Integer.MAX_VALUE);
        refused("write(4, -1, 5)", -2);
        refused("write(1, -1, 5)", -6);
        tray(0);
        refused("write(0, 0, 5)", -7);
    }

    // ---- 43: lists

    void promise43Places() {
        says("PLACES of a WAY in 0, 1, 2 .. DAYS come into a TRAY, as many as it has places: how many.");
        for (int sort = 0; sort < 4; sort++) {
            begin(KIN);
            due("numbers(0, " + sort + ", 4)", 0);
            due("lists(0, 0, 1)", 4);
            // It has 1, 3, 0, 0: as deeds, letters to 0 there.
            due("judge(0, 2)", 4 + 8);
            due("judge(0, 3)", 2 + 8);
            due("suspects(0, 0, 1)", 0);
            due("its sort stays", x.write(0, 0, 1L << 40), sort == 3 ? 1L << 40 : 0);
        }
    }

    void promise43AsManyAsItHas() {
        says("as many as it has places: how many.");
        begin(RING);
        due("numbers(0, 0, 0)", 0);
        due("lists(0, 3, 0)", 0);
        due("numbers(0, 0, 1)", 0);
        due("lists(0, 3, 5)", 1);
        due("it has 5", x.judge(0, 3), 32);
        due("numbers(0, 0, 12)", 0);
        due("lists(0, 3, 0)", 12);
        due("round for twelve", x.suspects(0, 3, 0), 0);
        due("only so, or with 3 where it doesn't come by", x.seen(0, 3, 0), 4 + 8 + 16 + 32);
        due("numbers(0, 0, 40)", 0);
        due("lists(0, 3, 0)", 40);
        refused("seen(0, 3, 0)", -4);
        due("the seventh letter can't be", x.judge(0, 0), 6);
    }

    void promise43Refused() {
        says("-2: the TRAY, the PERSON, the PLACE; -6.");
        begin(KIN);
        tray(0, 1, 0);
        refusedFor("lists(%, 0, 1)", -2, -1, 4, 5, Integer.MIN_VALUE, Integer.MAX_VALUE);
        refusedFor("lists(0, %, 1)", -2, -1, 5, 6, Integer.MIN_VALUE, Integer.MAX_VALUE);
        refusedFor("lists(0, 0, %)", -2, -1, 4, 5, Integer.MIN_VALUE, Integer.MAX_VALUE);
        refusedFor("lists(%, 0, 1)", -6, 1, 2, 3);
        refused("lists(3, 5, 1)", -2);
        refused("lists(3, 0, 4)", -2);
    }

    // ---- 44: image

    void promise44Made() {
        says("An IMAGE is made: 0.");
        begin(KIN);
        due("mood(0, 4)", 0);
        due("image(0)", 0);
        due("mood(0, 5)", 4);
        due("image(1)", 0);
        due("mood(0, 6)", 5);
        due("restore(0)", 0);
        due("person(0, 3)", 4);
        due("restore(1)", 0);
        due("person(0, 3)", 5);
        due("in place of another one", x.image(0), 0);
        due("mood(0, 7)", 5);
        due("restore(0)", 0);
        due("person(0, 3)", 5);
    }

    void promise44WhatIsStays() {
        says("An IMAGE is made: 0.");
        begin(KIN);
        due("mail(0, 1)", 0);
        due("mood(0, 4)", 0);
        String before = all();
        due("image(0)", 0);
        due("nothing is changed", all().equals(before) ? 1 : 0, 1);
        due("undo(2)", 0);
        due("undoing doesn't change it", x.restore(0), 0);
        due("person(0, 3)", 4);
        due("count(2)", 1);
    }

    void promise44Refused() {
        says("-2.");
        begin(KIN);
        refusedFor("image(%)", -2, -1, 2, 3, Integer.MIN_VALUE, Integer.MAX_VALUE);
        row("restore(%)", -5, -5);
    }

    // ---- 45: restore

    void promise45AsItWas() {
        says("All that is in an IMAGE is as it was: 0.");
        says("IMAGES 0 to 1: THE POST and what a call could bring back by UNDOING;");
        begin(KIN);
        due("mail(0, 1)", 0);
        due("mail(3, 2)", 1);
        due("arouse(1, 0)", 6);
        due("move(4, 1)", 0);
        due("days(2)", 0);
        due("image(1)", 0);
        x.undo(0);
        due("undo(5)", 0);
        due("restore(1)", 0);
        String then = all();
        due("days(5)", 0);
        due("move(0, 2)", 0);
        due("mood(0, 9)", 0);
        due("other post", Calls.tell(x, "places 2;person at 0;minds : 5;sends : 1;day 9;"), 5);
        due("restore(1)", 0);
        due("all as it was", all().equals(then) ? 1 : 0, 1);
        row("count(%)", 4, 5, 2, 2, 5, 16, 0, 0, 12);
        row("person(2, %)", 1, 2, 1, 0, 4, 0);
        due("its law", x.would(1, 0), 1);
    }

    void promise45AllOfSix() {
        says("All that is in an IMAGE is as it was: 0.");
        StringBuilder text = new StringBuilder("places 6;");
        for (int p = 0; p < 6; p++) {
            text.append("person at " + p + " home " + (5 - p) + " family " + p + " mood " + (9 - p) + " away " + (p + 5)
                + ";");
        }
        begin(text + "cares 5 for 4 3;minds : 0;");
        for (int l = 0; l < 6; l++) {
            due("mail(" + l + ", " + (l + l / 3) % 6 + ")", l);
            due("days(1)", 0);
        }
        due("image(0)", 0);
        due("restore(0)", 0);
        String then = all();
        tellAnew(KIN);
        for (int l = 0; l < 6; l++) {
            due("mail(0, 1)", l);
            due("days(9) can be", x.days(9) >= 0 ? 1 : 0, 1);
        }
        due("restore(0)", 0);
        due("all as it was", all().equals(then) ? 1 : 0, 1);
        row("letter(%, 0)", 0, 1, 2, 4, 5, 0);
        row("letter(%, 1)", 0, 1, 2, 3, 4, 5);
        row("letter(%, 2)", 1, 1, 1, 0, 0, 0);
        row("letter(%, 3)", 0, 0, 0, 3, 2, 1);
        for (int p = 0; p < 6; p++) {
            row("person(" + p + ", %)", p, 5 - p, p, 9 - p, p + 5, 1 << p);
        }
        due("cares(5, 4)", 3);
    }

    /** Another text for the same object. */
    private void tellAnew(String text) {
        due("post of '" + text + "'", Calls.tell(x, text) > 0 ? 1 : 0, 1);
    }

    void promise45NothingToUndoBehind() {
        says("nothing can be UNDONE behind (none at first).");
        begin(KIN);
        due("mood(0, 4)", 0);
        due("image(0)", 0);
        due("mood(0, 5)", 4);
        due("restore(0)", 0);
        due("count(6)", 0);
        refused("undo(1)", -3);
        due("mood(0, 6)", 4);
        due("undo(1)", 0);
        due("person(0, 3)", 4);
        due("again", x.restore(0), 0);
        due("person(0, 3)", 4);
        refused("undo(1)", -3);
    }

    void promise45TheRestStays() {
        says("THE POST and what a call could bring back by UNDOING;");
        begin(KIN);
        due("image(0)", 0);
        tray(2, 1);
        x.feed(0, 0, 0, 0, 0);
        due("post(3)", -31);
        x.feed(0, 0, 0, 0, 0);
        due("restore(0)", 0);
        due("count(7)", 20);
        row("fault(%)", 1, 0);
        due("judge(2, 3)", 2);
    }

    void promise45OfNoText() {
        says("All that is in an IMAGE is as it was: 0.");
        due("days(9)", 0);
        due("image(0)", 0);
        due("post", Calls.tell(x, KIN), 12);
        due("restore(0)", 0);
        row("count(%)", 2, 0, 0, 0, 9, 0, 0, 0, 0);
        refused("person(0, 0)", -2);
    }

    void promise45Refused() {
        says("-2; -5: none was made.");
        says("-5 it can't be now;");
        begin(KIN);
        refusedFor("restore(%)", -2, -1, 2, 3, Integer.MIN_VALUE, Integer.MAX_VALUE);
        refusedFor("restore(%)", -5, 0, 1);
        due("image(0)", 0);
        refused("restore(1)", -5);
        due("restore(0)", 0);
        due("it stays when another text is told", Calls.tell(x, LINE), 8);
        due("restore(0)", 0);
        due("count(8)", 12);
    }

    // ---- 46: count

    void promise46Counts() {
        says("0 PLACES, 1 PEOPLE, 2 LETTERS, 3 those GIVEN, as bits, 4 DAY, 5 all CARES together, "
            + "6 calls that can be UNDONE, 7 bytes on THE TAPE, 8 LINES.");
        begin(KIN);
        row("count(%)", 4, 5, 0, 0, 3, 15, 0, 0, 12);
        due("mail(0, 1)", 0);
        due("mail(0, 0)", 1);
        due("mail(1, 0)", 2);
        due("days(4)", 1);
        due("arouse(4, 3)", 1);
        x.feed(0, 0, 0, 0, 0);
        row("count(%)", 4, 5, 3, 3, 7, 16, 5, 20, 12);
    }

    void promise46Most() {
        says("3 those GIVEN, as bits, 4 DAY, 5 all CARES together,");
        StringBuilder text = new StringBuilder(SIX);
        for (int p = 0; p < 6; p++) {
            for (int q = 0; q < 6; q++) {
                text.append(p == q ? "" : "cares " + p + " for " + q + " 9;");
            }
        }
        begin(text.append("day 999;").toString());
        for (int p = 0; p < 6; p++) {
            due("mail(" + p + ", " + p + ")", p);
        }
        row("count(%)", 6, 6, 6, 63, 999, 270, 6, 0, 38);
    }

    void promise46Others() {
        says("NONE for others.");
        begin(KIN);
        for (long what : new long[] {-1, 9, 10, Integer.MIN_VALUE, Integer.MAX_VALUE}) {
            due("count(" + what + ")", -1);
        }
    }

    void promise46RefusedCallsChangeNothing() {
        says("Refused calls answer by a code and change nothing:");
        begin(KIN);
        due("mail(0, 1)", 0);
        tray(0, 1, 3, 0);
        due("image(0)", 0);
        String[] calls = {"post(1)", "days(100)", "undo(2)", "year(1, 41)", "mail(5, 0)", "move(0, 0)", "arouse(1, 1)",
            "mood(0, 10)", "numbers(0, 0, 41)", "write(0, 3, 9)", "lists(0, 0, 4)", "image(2)", "restore(1)",
            "perform(1)", "judge(0, 4)", "moves(0, 0, 1)", "feeling(0, 0, 1)", "probe(0, 0, 1, 0)"};
        for (String call : calls) {
            refused(call, answer(call));
            due(call + " is refused", answer(call) < -1 ? 1 : 0, 1);
        }
        due("it can be undone as before", x.undo(1), 0);
        due("count(2)", 0);
    }
}
