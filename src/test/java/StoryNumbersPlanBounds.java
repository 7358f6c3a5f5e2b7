/** The bounds that "4 A PLAN", "5 CHAPTERS" and the promises 25 to 29 name, each just inside and just outside. */
public final class StoryNumbersPlanBounds extends Answers {
    private static final int LEAST = 0, MOST = 1, MEMORY = 2, REMIND = 3, HOOK = 4, WONDER = 5;

    private static void parts(StoryNumbers x, int n, int set, int... parts) {
        for (int i = 0; i < parts.length; i++) {
            due("plan(" + n + ", " + set + ", " + i + ")", x.plan(n, set, i), parts[i]);
        }
        due("plan(" + n + ", " + set + ", n)", x.plan(n, set, n), NONE);
    }

    private static void worth(StoryNumbers x, int n, int set, int want) {
        due("plan(" + n + ", " + set + ", NONE)", x.plan(n, set, NONE), want);
        if (want == NONE) {
            due("plan(" + n + ", " + set + ", 0)", x.plan(n, set, 0), NONE);
        }
    }

    private static void countOfNumbers() {
        says("THE BEST PLAN for n NUMBERS (1 .. 12) of a SET. OUTSIDE (n)");
        StoryNumbers x = told(clauses(10));
        for (int n : new int[] {Integer.MIN_VALUE, -1, 0, 13, 14, Integer.MAX_VALUE}) {
            due("plan(" + n + ", 1, NONE)", x.plan(n, 1, NONE), OUTSIDE);
            due("plan(" + n + ", 1, 0)", x.plan(n, 1, 0), OUTSIDE);
            due("plan(" + n + ", 0, NONE)", x.plan(n, 0, NONE), OUTSIDE);
        }
        for (int n = 1; n <= 12; n++) {
            worth(x, n, 1023, n == 1 || n > 10 ? NONE : 0);
            worth(x, n, 0, NONE);
            worth(x, n, 512, n == 1 ? 0 : NONE);
        }
        says("the SET of part i (NONE: there is none such)");
        parts(x, 10, 1023, 1, 2, 4, 8, 16, 32, 64, 128, 256, 512);
        parts(x, 1, 512, 512);
        for (int i : new int[] {Integer.MIN_VALUE, -2, 10, 11, 12, Integer.MAX_VALUE}) {
            due("plan(10, 1023, " + i + ")", x.plan(10, 1023, i), NONE);
        }
        due("plan(12, 1023, 11)", x.plan(12, 1023, 11), NONE);
        says("UNKNOWN (bits; SCENES that are printed)");
        for (int set : new int[] {1024, 1025, -1, Integer.MIN_VALUE, Integer.MAX_VALUE}) {
            due("plan(1, " + set + ", NONE)", x.plan(1, set, NONE), UNKNOWN);
        }
        due("plan(1, 0, NONE) without a STORY", new StoryNumbers().plan(1, 0, NONE), NONE);
        due("plan(1, 1, NONE) without a STORY", new StoryNumbers().plan(1, 1, NONE), UNKNOWN);
        number(x, 9);
        due("plan(1, 512, NONE) printed", x.plan(1, 512, NONE), UNKNOWN);
        due("plan(1, 513, NONE) printed", x.plan(1, 513, NONE), UNKNOWN);
        worth(x, 1, 1, 0);
        worth(x, 9, 511, 0);
        worth(x, 10, 511, NONE);
    }

    private static void scenesOfAPart() {
        says("each of 1 to 6 SCENES");
        StoryNumbers x = told(clauses(10));
        worth(x, 1, 63, 0);
        worth(x, 1, 127, NONE);
        parts(x, 1, 63, 63);
        parts(x, 2, 127, 1, 126);
        parts(x, 2, 1023, 15, 1008);
        worth(x, 2, 1023, 0);
        parts(x, 3, 1023, 1, 14, 1008);
    }

    private static void linesOfAPart() {
        says("whose lines (REMINDERS aside) come from LEAST to MOST");
        for (int law = 29; law <= 31; law++) {
            StoryNumbers x = told("scene 10;scene 20;");
            x.law(LEAST, law);
            worth(x, 1, 3, law <= 30 ? 0 : NONE);
            due("kind(1, 0, 0) with LEAST " + law, x.kind(1, 0, 0), law <= 30 ? 3 : NONE);
            x.law(LEAST, 1);
            x.law(MOST, law);
            worth(x, 1, 3, law >= 30 ? 0 : NONE);
            due("kind(1, 0, 0) with MOST " + law, x.kind(1, 0, 0), law >= 30 ? 3 : 1);
        }
        // each part for itself
        StoryNumbers x = told("scene 10;scene 20;scene 30;");
        x.law(LEAST, 30);
        parts(x, 2, 7, 3, 4);
        x.law(MOST, 30);
        parts(x, 2, 7, 3, 4);
        x.law(LEAST, 10);
        x.law(MOST, 29);
        worth(x, 3, 7, NONE);
        worth(x, 2, 3, 0);
        x = told("scene 99;scene 99;scene 2;scene 1;");
        x.law(MOST, 200);
        worth(x, 1, 7, 0);
        worth(x, 1, 15, NONE);
        // a reminder that print() counts is none of the plan's lines
        x = told("scene 10 with 0;scene 10;scene 10 with 0;");
        x.law(MEMORY, 1);
        number(x, 0);
        number(x, 1);
        x.law(MOST, 10);
        worth(x, 1, 4, 0);
        x.add(2);
        due("print()", x.print(), NOT);
        x.law(MOST, 60);
        x.law(LEAST, 11);
        worth(x, 1, 4, NONE);
        due("print()", x.print(), 2);
    }

    private static void draftAside() {
        says("of a SET of SCENES that are not printed (THE DRAFT aside)");
        StoryNumbers x = told("scene 1 opens 0;scene 1 after 0;scene 1;");
        x.add(0);
        worth(x, 1, 2, NONE);
        worth(x, 1, 3, 2);
        due("kind(1, 0, 0)", x.kind(1, 0, 0), 7);
        due("plan(1, 1, 0)", x.plan(1, 1, 0), 1);
        x.print();
        worth(x, 1, 2, 2);
        due("kind(1, 0, 0)", x.kind(1, 0, 0), 6);
        due("plan(1, 1, 0)", x.plan(1, 1, 0), UNKNOWN);
    }

    private static void orderOfAPart() {
        says("each with an ORDER behind all printed and the parts ahead");
        StoryNumbers x = told("scene 1;scene 1 after 0;scene 1 after 1;scene 1 needs 7;scene 1 dies 1;scene 1 with 1;");
        worth(x, 1, 2, NONE);
        worth(x, 1, 3, 0);
        worth(x, 1, 5, NONE);
        parts(x, 2, 7, 1, 6);
        parts(x, 3, 7, 1, 2, 4);
        worth(x, 1, 8, NONE);
        worth(x, 2, 9, NONE);
        // with the dead nobody may come: 5 is ahead, though 4 is the lesser SET
        parts(x, 2, 48, 32, 16);
        number(x, 0);
        worth(x, 1, 2, 0);
        worth(x, 1, 4, NONE);
        parts(x, 2, 6, 2, 4);
        number(x, 4);
        worth(x, 1, 32, NONE);
        // JOY of what comes behind makes no part of what can be none
        x = told("scene 1 joy 9 needs 0;scene 1 joy 9;scene 1 joy 9 tells 0;");
        worth(x, 2, 3, NONE);
        worth(x, 2, 7, 27);
        parts(x, 2, 7, 2, 5);
        x.law(LEAST, 2);
        worth(x, 2, 7, NONE);
        worth(x, 3, 7, NONE);
        worth(x, 1, 7, 27);
        due("kind(2, 0, 0)", x.kind(2, 0, 0), NONE);
        x = told("scene 1 tells 0;scene 1 tells 1;scene 1;");
        parts(x, 2, 7, 1, 6);
        x.never(0, 1, true);
        worth(x, 2, 7, NONE);
        worth(x, 2, 5, 0);
        number(x, 0);
        worth(x, 1, 2, NONE);
        x.never(0, 1, false);
        worth(x, 1, 2, 0);
    }

    private static void worthOfAPart() {
        says("WORTH of a part: JOY of its SCENES; WONDER times QUESTIONS OPEN behind it");
        StoryNumbers x = told("scene 1 joy 9 opens 0,1;scene 1 joy 8 shuts 0;scene 1 joy 7 shuts 1;");
        x.law(HOOK, 0);
        x.law(WONDER, 20);
        worth(x, 1, 1, 9 + 40);
        worth(x, 1, 7, 24);
        worth(x, 2, 7, 24 + 40);
        worth(x, 3, 7, 24 + 40 + 20);
        parts(x, 3, 7, 1, 2, 4);
        // what is OPEN from what is printed counts, its JOY does not
        number(x, 0);
        worth(x, 1, 2, 8 + 20);
        worth(x, 2, 6, 15 + 20);
        says("HOOK, if the part has an ORDER whose last SCENE opens one that is OPEN there");
        x = told("scene 1 opens 0;scene 1;scene 1 after 0;scene 1 opens 1 shuts 1;");
        x.law(WONDER, 0);
        x.law(HOOK, 20);
        worth(x, 1, 1, 20);
        worth(x, 1, 2, 0);
        worth(x, 1, 3, 20);
        worth(x, 1, 5, 0);
        worth(x, 1, 8, 0);
        worth(x, 2, 5, 20);
        worth(x, 1, 9, 20);
        number(x, 0);
        worth(x, 1, 2, 0);
        says("HOOK, if the part has an ORDER (of all its SCENES)");
        x = told("scene 1 opens 0;scene 1 shuts 0;scene 1 opens 1;");
        x.law(WONDER, 0);
        worth(x, 1, 3, 0);
        worth(x, 1, 7, 4);
        worth(x, 2, 7, 4 + 4);
        parts(x, 2, 7, 1, 6);
    }

    private static void firstOfLikeOnes() {
        says("the greatest WORTH of all parts together; of like ones the first: part by part the least SET");
        StoryNumbers x = told(clauses(4));
        parts(x, 2, 15, 1, 14);
        parts(x, 3, 15, 1, 2, 12);
        parts(x, 2, 10, 2, 8);
        // greater WORTH goes ahead of a lesser SET: 1 ahead keeps its question open longer
        x = told("scene 1;scene 1 opens 0;");
        x.law(HOOK, 0);
        parts(x, 2, 3, 2, 1);
        worth(x, 2, 3, 4);
        x.law(WONDER, 0);
        parts(x, 2, 3, 1, 2);
        // a part of several SCENES that is less than a greater one alone
        x = told("scene 1;scene 1;scene 1 after 0;scene 1 after 0;");
        parts(x, 2, 15, 1, 14);
        x.law(LEAST, 2);
        parts(x, 2, 15, 3, 12);
        x = told("scene 3;scene 1;scene 1;scene 1;");
        x.law(LEAST, 3);
        parts(x, 2, 15, 1, 14);
    }

    private static void letters() {
        says("LIVING SCENES are those not printed in which none of them dies");
        StoryNumbers x = told("scene 1 dies 0;scene 1 dies 7;scene 1 with 0,7;scene 1;");
        due("kind(1, 0, 0)", x.kind(1, 0, 0), 15);
        due("kind(1, 1, 0)", x.kind(1, 1, 0), 14);
        due("kind(1, 128, 0)", x.kind(1, 128, 0), 13);
        due("kind(1, 129, 0)", x.kind(1, 129, 0), 12);
        due("kind(1, 126, 0)", x.kind(1, 126, 0), 15);
        due("kind(1, 255, 0)", x.kind(1, 255, 0), 12);
        number(x, 3);
        due("kind(1, 255, 0) printed", x.kind(1, 255, 0), 4);
        number(x, 1);
        due("kind(1, 0, 0) printed", x.kind(1, 0, 0), 1);
        number(x, 0);
        due("kind(1, 0, 0): nobody is left", x.kind(1, 0, 0), NONE);
        due("kind(1, 0, 1): nobody is left", x.kind(1, 0, 1), NONE);
        says("UNKNOWN (bits), OUTSIDE");
        for (int persons : new int[] {256, 257, -1, Integer.MIN_VALUE, Integer.MAX_VALUE}) {
            due("kind(1, " + persons + ", 0)", x.kind(1, persons, 0), UNKNOWN);
        }
        x = told(clauses(10));
        for (int n : new int[] {0, 13, -1, Integer.MIN_VALUE, Integer.MAX_VALUE}) {
            due("kind(" + n + ", 0, 0)", x.kind(n, 0, 0), OUTSIDE);
        }
        for (int what : new int[] {-1, 2, Integer.MIN_VALUE, Integer.MAX_VALUE}) {
            due("kind(1, 0, " + what + ")", x.kind(1, 0, what), OUTSIDE);
        }
        for (int n = 1; n <= 12; n++) {
            due("kind(" + n + ", 0, 0)", x.kind(n, 0, 0), n == 1 ? 63 : n > 10 ? NONE : 1023);
            due("kind(" + n + ", 0, 1)", x.kind(n, 0, 1), n > 10 ? NONE : 0);
        }
        for (int scenes = 1; scenes <= 9; scenes++) {
            x = told(clauses(scenes));
            due("kind(scenes, 0, 0) of " + scenes, x.kind(scenes, 0, 0), (1 << scenes) - 1);
            due("kind(scenes + 1, 0, 0) of " + scenes, x.kind(scenes + 1, 0, 0), NONE);
            due("kind(12, 0, 1) of " + scenes, x.kind(12, 0, 1), NONE);
        }
        due("kind(1, 0, 0) without a STORY", new StoryNumbers().kind(1, 0, 0), NONE);
    }

    private static void kindest() {
        says("of which there is one and that has the most SCENES (of like ones the greatest WORTH, then the least SET)");
        // the most SCENES go ahead of WORTH
        StoryNumbers x = told("scene 30 joy 9;scene 15;scene 15;");
        x.law(MOST, 30);
        due("kind(1, 0, 0)", x.kind(1, 0, 0), 6);
        due("kind(1, 0, 1)", x.kind(1, 0, 1), 0);
        x.law(MOST, 29);
        due("kind(1, 0, 0) with MOST 29", x.kind(1, 0, 0), 2);
        x.law(MOST, 44);
        due("kind(1, 0, 0) with MOST 44", x.kind(1, 0, 0), 6);
        x.law(MOST, 45);
        due("kind(1, 0, 0) with MOST 45: greater WORTH, then the least", x.kind(1, 0, 0), 3);
        due("kind(1, 0, 1) with MOST 45", x.kind(1, 0, 1), 9);
        // greater WORTH ahead of the lesser SET
        x = told("scene 30;scene 30;scene 30 joy 1;scene 30 joy 1;");
        due("kind(1, 0, 0)", x.kind(1, 0, 0), 12);
        due("kind(1, 0, 1)", x.kind(1, 0, 1), 2);
        x.law(MOST, 30);
        due("kind(1, 0, 0) with MOST 30", x.kind(1, 0, 0), 4);
        due("kind(3, 0, 0) with MOST 30", x.kind(3, 0, 0), 13);
        due("kind(4, 0, 0) with MOST 30", x.kind(4, 0, 0), 15);
        due("kind(5, 0, 0) with MOST 30", x.kind(5, 0, 0), NONE);
        // who needs a SCENE in which somebody dies can't come without it
        x = told("scene 1 tells 0 dies 3;scene 1 needs 0;scene 1;");
        due("kind(1, 8, 0)", x.kind(1, 8, 0), 4);
        due("kind(2, 8, 0)", x.kind(2, 8, 0), NONE);
        due("kind(1, 4, 0)", x.kind(1, 4, 0), 7);
        number(x, 0);
        due("kind(1, 8, 0) behind the death", x.kind(1, 8, 0), 6);
        // the WORTH is that of THE BEST PLAN of the SET
        x = told("scene 1;scene 1 opens 0;scene 1 dies 0;");
        int set = x.kind(2, 1, 0);
        due("kind(2, 1, 0)", set, 3);
        due("kind(2, 1, 1)", x.kind(2, 1, 1), x.plan(2, set, NONE));
        x = told("scene 1 opens 0;scene 1;scene 1 joy 1 opens 1;scene 1 shuts 0;");
        due("kind(1, 0, 1)", x.kind(1, 0, 1), 1 + 2 + 4);
        due("kind(2, 0, 1)", x.kind(2, 0, 1), 1 + (2 + 4) + (2 + 4));
        due("kind(3, 0, 1)", x.kind(3, 0, 1), 1 + (2 + 4) + (4 + 4) + 2);
        for (int n = 1; n <= 4; n++) {
            due("kind(" + n + ", 0, 1)", x.kind(n, 0, 1), x.plan(n, 15, NONE));
        }
    }

    private static void countOfChapters() {
        says("CHAPTERS (1 .. 8), one SCENE each at least. OUTSIDE (c)");
        StoryNumbers x = told(clauses(10));
        for (int c : new int[] {Integer.MIN_VALUE, -1, 0, 9, 10, Integer.MAX_VALUE}) {
            due("chapter(" + c + ", NONE)", x.chapter(c, NONE), OUTSIDE);
        }
        says("NOT: there are fewer SCENES printed");
        for (int printed = 0; printed <= 10; printed++) {
            for (int c = 1; c <= 8; c++) {
                int least = printed / c * (printed / c) * (c - printed % c) + (printed / c + 1) * (printed / c + 1) * (printed % c);
                due("chapter(" + c + ", NONE) of " + printed, x.chapter(c, NONE), printed < c ? NOT : least);
            }
            if (printed < 10) {
                x.add(printed);
                due("chapter(1) with THE DRAFT", x.chapter(1, NONE), printed < 1 ? NOT : printed * printed);
                x.print();
            }
        }
        for (int c : new int[] {0, 9}) {
            due("chapter(" + c + ", NONE)", x.chapter(c, NONE), OUTSIDE);
        }
        says("UNKNOWN (the CHAPTER; last of all)");
        for (int c = 1; c <= 8; c++) {
            int scenes = 0;
            for (int i = 0; i < c; i++) {
                scenes += x.chapter(c, i);
            }
            due("SCENES in " + c + " CHAPTERS", scenes, 10);
            for (int i : new int[] {c, c + 1, -2, Integer.MIN_VALUE, Integer.MAX_VALUE}) {
                due("chapter(" + c + ", " + i + ")", x.chapter(c, i), UNKNOWN);
            }
        }
    }

    private static void chapters(StoryNumbers x, int uneven, int... scenes) {
        due("chapter(" + scenes.length + ", NONE)", x.chapter(scenes.length, NONE), uneven);
        for (int i = 0; i < scenes.length; i++) {
            due("chapter(" + scenes.length + ", " + i + ")", x.chapter(scenes.length, i), scenes[i]);
        }
    }

    private static void uneven() {
        says("UNEVEN: the sum of squares of lines (REMINDERS aside), the least");
        StoryNumbers x = told("scene 10 with 0;scene 20;scene 30 with 0;");
        x.law(MEMORY, 1);
        x.law(REMIND, 20);
        numberEach(x, 3);
        due("number(2, 1)", x.number(2, 1), 50);
        chapters(x, 3600, 3);
        chapters(x, 1800, 2, 1);
        chapters(x, 1400, 1, 1, 1);
        says("of like ones the first: CHAPTER by CHAPTER the fewest SCENES");
        x = told(clauses(5));
        number(x, 4, 3, 2, 1, 0);
        chapters(x, 13, 2, 3);
        chapters(x, 9, 1, 2, 2);
        chapters(x, 7, 1, 1, 1, 2);
        x = told("scene 2;scene 2;scene 2;");
        numberEach(x, 3);
        chapters(x, 20, 1, 2);
        says("SCENES printed, in order");
        x = told("scene 1;scene 2;scene 3;");
        number(x, 2);
        number(x, 0, 1);
        chapters(x, 18, 1, 2);
        // printed ones may become fewer
        x = told(clauses(5));
        number(x, 0, 1);
        x.keep(0);
        number(x, 2, 3, 4);
        chapters(x, 25, 5);
        chapters(x, 13, 2, 3);
        x.goBack(0);
        chapters(x, 4, 2);
        chapters(x, 2, 1, 1);
        due("chapter(3, NONE)", x.chapter(3, NONE), NOT);
        x = told("scene 99;".repeat(10));
        x.law(MOST, 200);
        numberEach(x, 10);
        due("chapter(1, NONE) at most", x.chapter(1, NONE), 980100);
    }

    private static void states() {
        says("STATES 0, 1. UNKNOWN");
        StoryNumbers x = told(clauses(4));
        for (int i : new int[] {-1, 2, 3, Integer.MIN_VALUE, Integer.MAX_VALUE}) {
            due("keep(" + i + ")", x.keep(i), UNKNOWN);
            due("goBack(" + i + ")", x.goBack(i), UNKNOWN);
        }
        says("NOT: it was not kept");
        due("goBack(0)", x.goBack(0), NOT);
        due("goBack(1)", x.goBack(1), NOT);
        due("keep(0)", x.keep(0), 1);
        due("goBack(1)", x.goBack(1), NOT);
        due("goBack(0)", x.goBack(0), 1);
        number(x, 2);
        due("keep(1)", x.keep(1), 1);
        due("goBack(0)", x.goBack(0), 1);
        due("count(1)", x.count(1), 0);
        due("goBack(1)", x.goBack(1), 1);
        due("count(1)", x.count(1), 1);
        says("NOT: THE STORY was told anew since");
        tell(x, "scene 0;");
        due("goBack(0) behind a FAULT", x.goBack(0), 1);
        due("goBack(1) behind a FAULT", x.goBack(1), 1);
        tell(x, clauses(4));
        due("goBack(0) behind the same text", x.goBack(0), NOT);
        due("goBack(1) behind the same text", x.goBack(1), NOT);
        due("keep(1) of the new one", x.keep(1), 1);
        due("goBack(0)", x.goBack(0), NOT);
        due("goBack(1)", x.goBack(1), 1);
        tell(x, "");
        due("goBack(1) behind an empty text", x.goBack(1), NOT);
    }

    private static void whatIsKept() {
        says("STATES keep what is printed, THE DRAFT, LAWS");
        StoryNumbers x = told("scene 1 tells 0;scene 2 tells 1;scene 3;scene 4;");
        number(x, 3, 0);
        x.add(2);
        int[] laws = {2, 50, 3, 4, 5, 6, 7, 9};
        int[] others = {1, 200, 9, 20, 20, 20, 20, 99};
        for (int what = 0; what < 8; what++) {
            x.law(what, laws[what]);
        }
        x.keep(0);
        for (int what = 0; what < 8; what++) {
            x.law(what, others[what]);
        }
        x.drop();
        number(x, 1);
        x.add(2);
        x.never(0, 1, true);
        feed(x, "scene");
        for (int again = 0; again < 2; again++) {
            due("goBack(0)", x.goBack(0), 1);
            due("count(1)", x.count(1), 2);
            due("count(2)", x.count(2), 1);
            due("count(3)", x.count(3), 1);
            due("number(0, 6)", x.number(0, 6), 3);
            due("number(0, 7)", x.number(0, 7), 0);
            due("scene(1, 9)", x.scene(1, 9), NONE);
            due("lines()", x.lines(), 3);
            // neither NEVER nor THE TEXT is kept
            due("count(5)", x.count(5), 5);
            due("count(6)", x.count(6), 1);
            due("add(1)", x.add(1), NOT);
            due("drop()", x.drop(), 2);
            for (int what = 0; what < 8; what++) {
                due("law(" + what + ")", x.law(what, others[what]), laws[what]);
            }
        }
        // where NUMBERS end is kept, too
        x = told(clauses(6));
        x.keep(0);
        number(x, 0);
        number(x, 1, 2);
        x.keep(1);
        x.goBack(0);
        number(x, 5, 4, 3);
        number(x, 2);
        due("goBack(1)", x.goBack(1), 1);
        due("number(0, 0)", x.number(0, 0), 1);
        due("number(1, 0)", x.number(1, 0), 2);
        due("scene(2, 9)", x.scene(2, 9), 1);
        due("scene(5, 9)", x.scene(5, 9), NONE);
        says("STATE i becomes what is so");
        x.keep(0);
        x.law(0, 5);
        x.keep(0);
        x.law(0, 4);
        x.goBack(0);
        due("law(0) of the latest keep", x.law(0, 1), 5);
    }

    public static void main(String[] args) {
        countOfNumbers();
        scenesOfAPart();
        linesOfAPart();
        draftAside();
        orderOfAPart();
        worthOfAPart();
        firstOfLikeOnes();
        letters();
        kindest();
        countOfChapters();
        uneven();
        states();
        whatIsKept();
        end("bounds of plans, chapters and states");
    }
}
