import java.util.Arrays;

/** Promises 10 to 18: deeds, one by one, from a tray, by draws, and undone. */
final class DeedPromises extends Promises {
    private static final long FAR = 1L << 32;

    // ---- 10: mail

    void promise10ItsNumber() {
        says("To POST: its number.");
        says("To POST a LETTER (6 at most in all).");
        begin(KIN);
        for (int i = 0; i < 6; i++) {
            due("mail(" + i % 5 + ", " + i % 4 + ")", i);
            due("count(2)", i + 1);
        }
        refused("mail(0, 0)", -12);
        due("given ones count, too", x.count(3), 1 + 2);
        due("days(9)", 1);
        refused("mail(0, 1)", -12);
        due("undo(2)", 5);
        due("one less, one more", x.mail(0, 1), 5);
    }

    void promise10Given() {
        says("A LETTER is to a PERSON, and lies at a PLACE. It is GIVEN, for good, once it lies where that PERSON is "
            + "(posted there, sent there, the PERSON moved there).");
        begin(KIN);
        due("posted there", x.mail(0, 0) + 10 * x.count(3), 10);
        due("posted elsewhere", x.mail(0, 1) + 10 * x.count(3), 11);
        due("sent there", x.days(2) + 10 * x.count(3), 31);
        due("posted at 2", x.mail(0, 2), 2);
        due("moved there", x.move(0, 2) + 10 * x.count(3), 71);
        due("for good", x.move(0, 3) + 10 * x.count(3), 70);
        row("letter(%, 0)", 0, 0, 2);
        due("sent no more", x.days(9), 0);
        row("letter(%, 0)", 0, 0, 2);
        due("letters to others there aren't given", x.mail(1, 3) + 10 * x.count(3), 73);
    }

    void promise10WhyNot() {
        says("-11, -12.");
        says("Why not: 1 no such PERSON, PLACE, MOOD, both one.");
        says("2 there are 6 LETTERS;");
        says("-11, -12 why not (1, 2);");
        begin(KIN);
        refusedFor("mail(%, 0)", -11, -1, 5, 6, Integer.MIN_VALUE, Integer.MAX_VALUE);
        refusedFor("mail(0, %)", -11, -1, 4, 5, 6, Integer.MIN_VALUE, Integer.MAX_VALUE);
        for (int i = 0; i < 6; i++) {
            x.mail(4, 3);
        }
        refused("mail(4, 3)", -12);
        refused("mail(0, 0)", -12);
    }

    void promise10FirstTold() {
        says("(Of several that which the call tells first; all these ahead of NONE.)");
        begin(KIN);
        for (int i = 0; i < 6; i++) {
            x.mail(4, 3);
        }
        refused("mail(5, 3)", -11);
        refused("mail(4, 4)", -11);
        refused("mail(-1, -1)", -11);
    }

    // ---- 11: move

    void promise11HowManyGiven() {
        says("To MOVE: how many LETTERS are GIVEN to it by that.");
        says("To MOVE a PERSON to a PLACE.");
        begin(KIN);
        due("mail(1, 2)", 0);
        due("mail(1, 2)", 1);
        due("mail(1, 3)", 2);
        due("mail(0, 2)", 3);
        due("mail(1, 1)", 4);
        due("those to it, that lie there", x.move(1, 2), 2);
        due("count(3)", 1 + 2 + 16);
        due("person(1, 0)", 2);
        due("away from them", x.move(1, 1), 0);
        due("given ones aren't given again", x.move(1, 2), 0);
        due("move(1, 3)", 1);
        due("count(3)", 1 + 2 + 4 + 16);
    }

    void promise11WhyNot() {
        says("-11, -12.");
        says("it is there (to MOVE);");
        begin(KIN);
        refusedFor("move(%, 0)", -11, -1, 5, 6, Integer.MIN_VALUE, Integer.MAX_VALUE);
        refusedFor("move(0, %)", -11, -1, 4, 5, 6, Integer.MIN_VALUE, Integer.MAX_VALUE);
        refused("move(0, 0)", -12);
        refused("move(4, 3)", -12);
        due("move(0, 3)", 0);
        refused("move(0, 3)", -12);
        refused("move(5, 5)", -11);
    }

    // ---- 12: arouse

    void promise12HowMuchThen() {
        says("To AROUSE: how much it CARES then.");
        says("To AROUSE one for another: it CARES 1 more (9 at most).");
        begin(KIN);
        for (int i = 1; i <= 9; i++) {
            due("arouse(0, 1)", i);
            due("cares(0, 1)", i);
        }
        refused("arouse(0, 1)", -12);
        due("not the other way", x.cares(1, 0), 5);
        due("count(5)", 15 + 9);
        due("arouse(2, 0)", 8);
        due("arouse(2, 0)", 9);
        refused("arouse(2, 0)", -12);
    }

    void promise12WhyNot() {
        says("-11, -12.");
        says("it CARES 9.");
        says("1 no such PERSON, PLACE, MOOD, both one.");
        begin("places 2;person at 0;person at 0;cares 0 for 1 9;cares 1 for 0 8;");
        refused("arouse(0, 1)", -12);
        due("arouse(1, 0)", 9);
        refused("arouse(1, 0)", -12);
        refused("arouse(0, 0)", -11);
        refused("arouse(1, 1)", -11);
        refusedFor("arouse(%, 0)", -11, -1, 2, 6, Integer.MIN_VALUE, Integer.MAX_VALUE);
        refusedFor("arouse(0, %)", -11, -1, 2, 6, Integer.MIN_VALUE, Integer.MAX_VALUE);
        refused("arouse(2, 2)", -11);
    }

    // ---- 13: mood

    void promise13WhatItWas() {
        says("To have a MOOD (0 to 9): what it was.");
        says("To have a MOOD.");
        begin(KIN);
        due("mood(1, 9)", 2);
        due("the same one", x.mood(1, 9), 9);
        due("person(1, 3)", 9);
        due("mood(1, 0)", 9);
        due("person(1, 3)", 0);
        due("others stay", x.person(0, 3), 0);
        due("the same one can be undone, too", x.count(6), 3);
    }

    void promise13WhyNot() {
        says("-11.");
        says("1 no such PERSON, PLACE, MOOD, both one.");
        begin(KIN);
        refusedFor("mood(1, %)", -11, -1, 10, 11, Integer.MIN_VALUE, Integer.MAX_VALUE);
        refusedFor("mood(%, 0)", -11, -1, 5, 6, Integer.MIN_VALUE, Integer.MAX_VALUE);
    }

    // ---- 14: days

    void promise14HowManyGiven() {
        says("n DAYS (1 to 99): how many LETTERS are GIVEN in these.");
        begin(LINE);
        due("mail(4, 0)", 0);
        due("mail(3, 0)", 1);
        due("mail(2, 3)", 2);
        due("mail(1, 1)", 3);
        due("days(3)", 1);
        row("letter(%, 0)", 3, 3, 1, 1);
        due("days(1)", 2);
        row("letter(%, 0)", 4, 3, 2, 1);
        due("days(99)", 0);
        due("count(4)", 103);
    }

    void promise14RefusedN() {
        says("-3.");
        says("-3 a number can't be;");
        begin(LINE);
        due("mail(4, 0)", 0);
        refusedFor("days(%)", -3, 0, -1, 100, 101, Integer.MIN_VALUE, Integer.MAX_VALUE);
        due("days(1)", 0);
        due("days(99)", 1);
    }

    void promise14AllAtOnce() {
        says("A DAY: each LETTER that isn't GIVEN, all at once:");
        begin("places 3;person at 2;person at 0;person at 1;minds : 1;sends : 1 - at;");
        due("mail(0, 0)", 0);
        due("mail(0, 1)", 1);
        due("days(1)", 0);
        row("letter(%, 0)", 1, 0);
        due("days(98)", 0);
        row("letter(%, 0)", 1, 0);
        begin(LINE);
        for (int place = 0; place < 4; place++) {
            x.mail(4, place);
        }
        due("one step each", x.days(1), 1);
        row("letter(%, 0)", 1, 2, 3, 4);
    }

    void promise14ButToWhomItIs() {
        says("of PEOPLE at its PLACE (but to whom it is) the one that MINDS most,");
        begin("places 3;person at 2;person at 0;person at 0;person at 1;cares 1 for 0 3;cares 2 for 0 4;"
            + "cares 3 for 0 9;sends : who - 1;");
        due("mail(0, 0)", 0);
        due("2 minds most of those there", x.letter(0, 4), 2);
        due("days(1)", 0);
        due("letter(0, 0)", 1);
        due("given, it isn't sent by whom it is to, nor by others", x.mail(0, 2) + x.move(1, 2) + x.letter(1, 4), 0);
        due("days(1)", 1);
        row("letter(%, 0)", 2, 2);
    }

    void promise14MoreThanNothing() {
        says("more than 0,");
        begin("places 2;person at 1;person at 0;cares 1 for 0 2;minds : cares - 3;");
        due("mail(0, 0)", 0);
        due("minds(1, 0)", -1);
        due("letter(0, 4)", -1);
        due("days(9)", 0);
        due("arouse(1, 0)", 3);
        due("minds(1, 0)", 0);
        due("letter(0, 4)", -1);
        due("days(9)", 0);
        due("arouse(1, 0)", 4);
        due("letter(0, 4)", 1);
        due("days(1)", 1);
    }

    void promise14LikeOnes() {
        says("of like ones the first, sends it where it WOULD");
        begin("places 4;person at 3;person at 0;person at 0;person at 0;cares 1 for 0 1;cares 2 for 0 5;"
            + "cares 3 for 0 5;sends : who;");
        due("mail(0, 0)", 0);
        due("letter(0, 4)", 2);
        due("days(1)", 0);
        due("letter(0, 0)", 2);
        due("mail(0, 0)", 1);
        due("arouse(3, 0)", 6);
        due("letter(1, 4)", 3);
        due("days(1)", 1);
    }

    void promise14Stays() {
        says("(the same PLACE: it stays); if there is none such, it stays.");
        begin("places 4;person at 3;person at 0;person at 0;person at 1;cares 1 for 0 5;cares 2 for 0 4;"
            + "sends : if who = 1 then at else 3 end;");
        due("kept by 1", x.mail(0, 0), 0);
        due("nobody minds", x.mail(0, 1), 1);
        due("nobody is there", x.mail(0, 2), 2);
        due("days(99)", 0);
        row("letter(%, 0)", 0, 1, 2);
        row("letter(%, 2)", 0, 0, 0);
        row("letter(%, 4)", 1, -1, -1);
    }

    void promise14OneMore() {
        says("DAY is 1 more.");
        begin(KIN);
        due("count(4)", 3);
        due("days(1)", 0);
        due("count(4)", 4);
        due("days(99)", 0);
        due("count(4)", 103);
    }

    // ---- 15: undo

    void promise15HowManyStill() {
        says("n calls (1 to 10) are UNDONE: how many still can be.");
        begin(KIN);
        for (int i = 0; i < 10; i++) {
            due("mood(0, " + i + ")", Math.max(0, i - 1));
        }
        due("undo(1)", 9);
        due("person(0, 3)", 8);
        due("undo(3)", 6);
        due("person(0, 3)", 5);
        due("undo(6)", 0);
        due("person(0, 3)", 0);
        for (int i = 0; i < 10; i++) {
            x.mood(0, i);
        }
        due("undo(10)", 0);
    }

    void promise15RefusedN() {
        says("-3: n, more than can be.");
        begin(KIN);
        refusedFor("undo(%)", -3, 1, 0, -1, 10, 11, Integer.MIN_VALUE, Integer.MAX_VALUE);
        due("mood(0, 4)", 0);
        refusedFor("undo(%)", -3, 2, 0, -1, 10, 11, Integer.MIN_VALUE, Integer.MAX_VALUE);
        for (int i = 0; i < 20; i++) {
            x.mood(0, i % 10);
        }
        refusedFor("undo(%)", -3, 11, 0, -1, 20, Integer.MIN_VALUE, Integer.MAX_VALUE);
        due("undo(10)", 0);
    }

    void promise15TenAtMost() {
        says("the latest first, 10 at most (eldest are forgotten):");
        begin(KIN);
        for (int i = 1; i <= 9; i++) {
            x.mood(0, i);
            due("count(6)", i);
        }
        for (int i = 0; i < 5; i++) {
            x.mood(0, i);
            due("count(6)", 10);
        }
        due("undo(10)", 0);
        due("what was ahead of the tenth last", x.person(0, 3), 4);
        refused("undo(1)", -3);
    }

    void promise15AnyNumberOfCalls() {
        says("the latest first, 10 at most (eldest are forgotten):");
        for (int calls = 1; calls <= 45; calls++) {
            begin(KIN);
            for (int i = 1; i <= calls; i++) {
                x.mood(0, i * 7 % 10);
            }
            int can = Math.min(10, calls);
            due("count(6)", can);
            for (int i = 1; i <= can; i++) {
                due("undo(1)", can - i);
                due("person(0, 3)", (calls - i) * 7 % 10);
            }
            refused("undo(1)", -3);
        }
    }

    void promise15EachKind() {
        says("Calls that did some can be UNDONE each as a whole,");
        says("PEOPLE, LETTERS, DAY.");
        begin(KIN);
        String[] calls = {"mail(0, 1)", "move(1, 2)", "arouse(1, 2)", "mood(3, 4)", "days(1)", "days(99)",
            "perform(0)", "year(7, 40)", "days(2)"};
        tray(0, 1, 103, 142, 203, 315, -1, -1, 31);
        String[] ahead = new String[calls.length];
        for (int i = 0; i < calls.length; i++) {
            ahead[i] = all();
            due(calls[i] + " can be", answer(calls[i]) >= 0 ? 1 : 0, 1);
        }
        for (int i = calls.length - 1; i >= 0; i--) {
            due("undo(1)", i);
            due(calls[i] + " is undone", all().equals(ahead[i]) ? 1 : 0, 1);
        }
    }

    void promise15GivenByMoving() {
        says("PEOPLE, LETTERS, DAY.");
        begin(KIN);
        due("mail(0, 2)", 0);
        due("move(0, 2)", 1);
        due("days(4)", 0);
        due("undo(2)", 1);
        row("letter(0, %)", 2, 0, 0, 0, 3);
        due("days(1)", 0);
        due("sent again", x.letter(0, 0), 3);
        due("undo(2)", 0);
        due("count(2)", 0);
    }

    void promise15SixLetters() {
        says("PEOPLE, LETTERS, DAY.");
        begin(LINE);
        for (int l = 0; l < 6; l++) {
            due("mail(4, 3)", l);
        }
        String before = all();
        due("days(1)", 6);
        due("count(3)", 63);
        due("undo(1)", 6);
        due("all as it was", all().equals(before) ? 1 : 0, 1);
        due("count(3)", 0);
        due("move(4, 3)", 6);
        due("undo(1)", 6);
        due("all as it was", all().equals(before) ? 1 : 0, 1);
        begin(SIX);
        before = all();
        due("move(5, 0)", 0);
        due("mood(5, 9)", 0);
        due("arouse(5, 4)", 1);
        due("undo(3)", 0);
        due("all as it was", all().equals(before) ? 1 : 0, 1);
    }

    void promise15CallsThatDidNothing() {
        says("Calls that did some can be UNDONE");
        begin(KIN);
        for (int i = 0; i < 11; i++) {
            x.mood(0, i % 10);
        }
        tray(0, 100, -1);
        tray(1);
        due("none of them can be", x.perform(0), 0);
        due("there is none", x.perform(1), 0);
        refused("mail(0, 9)", -11);
        refused("move(0, 0)", -12);
        refused("arouse(0, 0)", -11);
        refused("mood(0, 10)", -11);
        refused("days(0)", -3);
        refused("year(1, 0)", -3);
        due("the eldest is still there", x.undo(10), 0);
        due("person(0, 3)", 0);
        x = new MindPost();
        // Draws of seed 1 begin with a letter to 0: there is nobody.
        due("year(1, 1)", 0);
        due("count(6)", 0);
    }

    void promise15GoesOn() {
        says("the latest first, 10 at most (eldest are forgotten):");
        begin(KIN);
        for (int i = 0; i < 100; i++) {
            due("mood(0, " + (i + 1) % 10 + ")", i % 10);
            due("mood(1, 5)", i == 0 ? 2 : 5);
            if (i % 3 == 0) {
                due("mood(2, 9)", 0);
                due("undo(1)", Math.min(9, 2 * i + 2));
            }
        }
    }

    void promise15TheRestStays() {
        says("PEOPLE, LETTERS, DAY.");
        begin(KIN);
        due("mood(0, 4)", 0);
        tray(0, 1);
        due("image(0)", 0);
        x.feed(0, 0, 0, 0, 0);
        due("undo(1)", 0);
        due("judge(0, 3)", 2);
        due("count(7)", 20);
        due("restore(0)", 0);
        due("person(0, 3)", 4);
    }

    // ---- 16: judge

    void promise16AsIfDone() {
        says("DEEDS, judged as if done,");
        begin(KIN);
        tray(0, 1, 112, 201, 325, -1, -1);
        String before = all();
        due("judge(0, 0)", -1);
        due("judge(0, 1)", 0);
        due("judge(0, 2)", 1);
        due("judge(0, 3)", 0);
        due("nothing is done", all().equals(before) ? 1 : 0, 1);
        due("count(6)", 0);
    }

    void promise16FirstThatCanNotBe() {
        says("what 0: the first place that can't be (NONE), 1: why (0),");
        begin(KIN);
        tray(0, 100);
        due("judge(0, 0)", 0);
        due("judge(0, 1)", 2);
        tray(0, 1, -1, 100, 7, 400);
        due("judge(0, 0)", 2);
        due("judge(0, 1)", 2);
        tray(0, 1, -1, 7, 100);
        due("judge(0, 0)", 2);
        due("judge(0, 1)", 1);
        tray(0);
        row("judge(0, %)", -1, 0, 0, 0);
        long[] days = new long[40];
        Arrays.fill(days, -1);
        tray(0, days);
        row("judge(0, %)", -1, 0, 0, 0);
        days[39] = -2;
        tray(0, days);
        row("judge(0, %)", 39, 1, 0, 0);
    }

    void promise16GivenThen() {
        says("2: LETTERS that are GIVEN then, as bits,");
        begin(KIN);
        due("given already", x.mail(0, 0), 0);
        tray(0, 1, 12, 0, 103, -1);
        due("to 0 at 0, and at 3 where 0 comes to be", x.judge(0, 2), 1 + 2 + 8);
        tray(0, 400, 0);
        due("till one can't be", x.judge(0, 2), 1);
        tray(0);
        due("as it is", x.judge(0, 2), 1);
    }

    void promise16LyingThen() {
        says("3: PLACES where some lie that aren't then, as bits.");
        begin(KIN);
        due("mail(1, 3)", 0);
        tray(0, 0, 1, 2, 42);
        due("not that of the given one", x.judge(0, 3), 8 + 2 + 4);
        tray(0, 0, 1, 2, 42, -1);
        due("a day on", x.judge(0, 3), 8 + 4);
        tray(0, 0, 1, 400, 2);
        due("till one can't be", x.judge(0, 3), 8 + 2);
        tray(0, 113);
        due("given there", x.judge(0, 3), 0);
    }

    void promise16Refused() {
        says("-2: the TRAY, what; -6.");
        says("-6 a TRAY is MISSING;");
        says("(Of several that which the call tells first; all these ahead of NONE.)");
        begin(KIN);
        tray(0, 1);
        refusedFor("judge(%, 0)", -2, -1, 4, 5, Integer.MIN_VALUE, Integer.MAX_VALUE);
        refusedFor("judge(0, %)", -2, -1, 4, 5, Integer.MIN_VALUE, Integer.MAX_VALUE);
        refusedFor("judge(%, 0)", -6, 1, 2, 3);
        refusedFor("judge(3, %)", -2, -1, 4);
    }

    private void why(int why, long... deeds) {
        for (long v : deeds) {
            tray(0, v);
            due("why not " + v, x.judge(0, 1), why);
            due("place of " + v, x.judge(0, 0), why == 0 ? -1 : 0);
        }
    }

    void promise16DeedsOfEachHundred() {
        says("DEEDS in a TRAY: 0 to 99: a LETTER to PERSON v by 10 is POSTED at PLACE v modulo 10;");
        says("100 to 199: PERSON (v - 100) by 10 MOVES to PLACE v modulo 10;");
        says("200 to 299: PERSON (v - 200) by 10 is AROUSED for PERSON v modulo 10;");
        says("300 to 399: PERSON (v - 300) by 10 has MOOD v modulo 10;");
        begin(SIX);
        why(0, 0, 1, 5, 50, 55);
        why(1, 6, 9, 56, 59, 60, 65, 90, 99);
        why(0, 101, 105, 110, 150, 154);
        why(2, 100, 111, 155);
        why(1, 106, 109, 156, 159, 160, 166, 190, 199);
        why(0, 201, 205, 210, 250, 254);
        why(1, 200, 211, 255, 206, 209, 256, 259, 260, 266, 299);
        why(0, 300, 301, 309, 350, 359);
        why(1, 360, 366, 369, 390, 399);
    }

    void promise16DeedsElse() {
        says("NONE: a DAY; others: 1.");
        begin(SIX);
        why(0, -1);
        why(1, -2, -3, -100, 400, 401, 499, 1000, FAR, FAR - 1, FAR + 100, -FAR, -FAR - 1, Long.MIN_VALUE,
            Long.MAX_VALUE, Integer.MIN_VALUE, Integer.MAX_VALUE);
        due("numbers(0, 0, 1)", 0);
        due("write(0, 0, 255)", -1);
        due("cut to 8 bits it is a day", x.judge(0, 1), 0);
        due("write(0, 0, 201)", -55);
        due("cut to 8 bits it is none", x.judge(0, 1), 1);
    }

    void promise16WhyTwo() {
        says("2 there are 6 LETTERS; it is there (to MOVE); it CARES 9.");
        begin("places 6;person at 0;person at 1;cares 0 for 1 9;cares 1 for 0 8;");
        why(2, 201, 100, 111);
        tray(0, 210, 210);
        due("judge(0, 0)", 1);
        due("judge(0, 1)", 2);
        tray(0, 1, 2, 3, 4, 5, 0, 0);
        due("judge(0, 0)", 6);
        due("judge(0, 1)", 2);
        tray(0, 1, 2, 3, 4, 5, 0, 6);
        due("no such place ahead of it", x.judge(0, 1), 1);
    }

    // ---- 17: perform

    void promise17TillOneCanNotBe() {
        says("They are done, till one can't be: how many.");
        begin(KIN);
        tray(0, 1, 201, -1, 112, 325, 100, 1);
        due("perform(0)", 5);
        row("count(%)", 4, 5, 1, 0, 4, 16, 1);
        due("letter(0, 0)", 3);
        due("cares(0, 1)", 1);
        due("person(1, 0)", 2);
        due("person(2, 3)", 5);
        due("undone as a whole", x.undo(1), 0);
        row("count(%)", 4, 5, 0, 0, 3, 15, 0);
        due("person(1, 0)", 1);
        due("person(2, 3)", 0);
    }

    void promise17NoneAndAll() {
        says("They are done, till one can't be: how many.");
        begin(KIN);
        tray(0, 100, -1);
        due("perform(0)", 0);
        tray(0);
        due("perform(0)", 0);
        row("count(%)", 4, 5, 0, 0, 3, 15, 0);
        long[] days = new long[40];
        Arrays.fill(days, -1);
        tray(0, days);
        due("perform(0)", 40);
        due("count(4)", 43);
        due("again", x.perform(0), 40);
        due("count(6)", 2);
    }

    void promise17Refused() {
        says("-2; -6.");
        begin(KIN);
        tray(0, 1);
        refusedFor("perform(%)", -2, -1, 4, 5, Integer.MIN_VALUE, Integer.MAX_VALUE);
        refusedFor("perform(%)", -6, 1, 2, 3);
    }

    // ---- 18: year

    void promise18HowManyCould() {
        says("A YEAR: how many could be.");
        begin(SIX);
        // Seed 1: a letter to 0 at 3; 3 moves to 1; a letter to 5 at 2; two days; moods of 0, 1, 5: 8, 7, 4.
        due("year(1, 8)", 8);
        row("letter(%, 0)", 3, 2);
        row("letter(%, 1)", 0, 5);
        due("count(4)", 2);
        row("person(%, 0)", 0, 1, 2, 1, 4, 5);
        row("person(%, 3)", 8, 7, 0, 0, 0, 4);
        begin(SIX);
        // Seed 2: 5 for 5, which can't be; 3 for 5; a day.
        due("year(2, 3)", 2);
        due("cares(3, 5)", 1);
        due("count(4)", 1);
        begin(SIX);
        // Seed 2147483647: mood 0 of 1; a day; 2 moves to 2, where it is.
        due("year(2147483647, 3)", 2);
    }

    void promise18EachSeed() {
        says("A YEAR by a SEED (x, an int; a DRAW: x becomes 1103515245 x + 12345, it is x >>> 16): "
            + "so many times (1 to 40):");
        says("DRAW modulo 6: 0, 1 a DAY; 2 a LETTER to DRAW modulo 6 is POSTED at DRAW modulo 6; "
            + "3 PERSON DRAW modulo 6 MOVES to DRAW modulo 6; 4 PERSON DRAW modulo 6 is AROUSED for DRAW modulo 6; "
            + "5 PERSON DRAW modulo 6 has MOOD DRAW modulo 10; as in a TRAY, if it can be.");
        for (int seed = -100; seed < 100; seed++) {
            oneYear(KIN, seed, 1 + (seed + 100) % 40);
            oneYear(SIX, seed * 1234567891, 40);
        }
        oneYear(KIN, Integer.MIN_VALUE, 40);
        oneYear(KIN, Integer.MAX_VALUE, 40);
    }

    /** A year is told a second time, by single calls. */
    private void oneYear(String text, int seed, int times) {
        begin(text);
        MindPost year = x;
        begin(text);
        int[] draw = {seed};
        int could = 0;
        for (int i = 0; i < times; i++) {
            int kind = next(draw, 6);
            if (kind < 2) {
                x.days(1);
                could++;
            } else {
                int a = next(draw, 6);
                int b = next(draw, kind == 5 ? 10 : 6);
                int got = kind == 2 ? x.mail(a, b)
                    : kind == 3 ? x.move(a, b) : kind == 4 ? x.arouse(a, b) : x.mood(a, b);
                could += got < 0 ? 0 : 1;
            }
        }
        due("year(" + seed + ", " + times + ")", year.year(seed, times), could);
        due("one call", year.count(6), could > 0 ? 1 : 0);
        x.image(0);
        x.restore(0);
        year.image(0);
        year.restore(0);
        String one = all();
        x = year;
        due("all of year(" + seed + ", " + times + ")", all().equals(one) ? 1 : 0, 1);
    }

    private static int next(int[] draw, int kinds) {
        draw[0] = 1103515245 * draw[0] + 12345;
        return (draw[0] >>> 16) % kinds;
    }

    void promise18RefusedTimes() {
        says("-3: how many times.");
        begin(KIN);
        refusedFor("year(1, %)", -3, 0, -1, 41, 42, Integer.MIN_VALUE, Integer.MAX_VALUE);
        due("year(0, 1)", 1);
        due("seed 0 begins with a day", x.count(4), 4);
        due("year(1, 40) can be", x.year(1, 40) > 0 ? 1 : 0, 1);
    }
}
