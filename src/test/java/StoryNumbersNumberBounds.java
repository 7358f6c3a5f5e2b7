/** The bounds that "3 NUMBERS" and the promises 18 to 24 name, each sentence just inside and just outside. */
public final class StoryNumbersNumberBounds extends Answers {
    private static final int LEAST = 0, MOST = 1, MEMORY = 2, REMIND = 3, HOOK = 4, WONDER = 5, TIRED = 6, DULL = 7;
    private static final int[] AT_FIRST = {1, 60, 2, 3, 4, 2, 1, 8};
    private static final int[] LOWEST = {1, 1, 1, 0, 0, 0, 0, 0};
    private static final int[] HIGHEST = {99, 200, 9, 20, 20, 20, 20, 99};

    private static void laws() {
        says("LAWS: 0 LEAST (1 .. 99; 1 at first) .. 7 DULL (0 .. 99; 8)");
        for (int what = 0; what < 8; what++) {
            StoryNumbers x = new StoryNumbers();
            if (what == LEAST) {
                x.law(MOST, 200);
            }
            due("law(" + what + ", lowest - 1)", x.law(what, LOWEST[what] - 1), OUTSIDE);
            due("law(" + what + ", highest + 1)", x.law(what, HIGHEST[what] + 1), OUTSIDE);
            due("law(" + what + ", MIN)", x.law(what, Integer.MIN_VALUE), OUTSIDE);
            due("law(" + what + ", MAX)", x.law(what, Integer.MAX_VALUE), OUTSIDE);
            due("law(" + what + ", lowest)", x.law(what, LOWEST[what]), AT_FIRST[what]);
            due("law(" + what + ", highest)", x.law(what, HIGHEST[what]), LOWEST[what]);
            due("law(" + what + ", at first)", x.law(what, AT_FIRST[what]), HIGHEST[what]);
            for (int other = 0; other < 8; other++) {
                int is = what == LEAST && other == MOST ? 200 : AT_FIRST[other];
                due("law(" + other + ") behind law(" + what + ")", x.law(other, is), is);
            }
        }
        says("OUTSIDE");
        StoryNumbers x = new StoryNumbers();
        due("law(-1, 1)", x.law(-1, 1), OUTSIDE);
        due("law(8, 1)", x.law(8, 1), OUTSIDE);
        due("law(MIN, 1)", x.law(Integer.MIN_VALUE, 1), OUTSIDE);
        due("law(MAX, 1)", x.law(Integer.MAX_VALUE, 1), OUTSIDE);
    }

    private static void leastAndMost() {
        says("LEAST above MOST then, too");
        StoryNumbers x = new StoryNumbers();
        due("law(LEAST, 61)", x.law(LEAST, 61), OUTSIDE);
        due("law(LEAST, 60)", x.law(LEAST, 60), 1);
        due("law(MOST, 59)", x.law(MOST, 59), OUTSIDE);
        due("law(MOST, 60)", x.law(MOST, 60), 60);
        due("law(MOST, 61)", x.law(MOST, 61), 60);
        due("law(LEAST, 62)", x.law(LEAST, 62), OUTSIDE);
        due("law(LEAST, 61)", x.law(LEAST, 61), 60);
        due("law(LEAST, 1)", x.law(LEAST, 1), 61);
        due("law(MOST, 1)", x.law(MOST, 1), 61);
        due("law(LEAST, 2)", x.law(LEAST, 2), OUTSIDE);
        due("law(LEAST, 1)", x.law(LEAST, 1), 1);
    }

    private static void lawsOfPrintedNumbers() {
        says("They are as they are now for all NUMBERS, also printed ones (which stay printed)");
        StoryNumbers x = told("scene 10 joy 1 with 0 opens 0;scene 20;scene 30 with 0;scene 40;");
        x.law(MEMORY, 1);
        numberEach(x, 3);
        due("number(2, 1)", x.number(2, 1), 33);
        x.law(REMIND, 20);
        due("number(2, 1) with REMIND 20", x.number(2, 1), 50);
        x.law(MEMORY, 2);
        due("number(2, 1) with MEMORY 2", x.number(2, 1), 30);
        due("number(2, 5) with MEMORY 2", x.number(2, 5), 0);
        due("number(0, 2)", x.number(0, 2), 1 + 2 + 4);
        x.law(WONDER, 5);
        x.law(HOOK, 20);
        due("number(0, 2) under other LAWS", x.number(0, 2), 1 + 5 + 20);
        x.law(DULL, 0);
        due("number(0, 3) with DULL 0", x.number(0, 3), 1260);
        x.law(MOST, 15);
        x.law(LEAST, 15);
        due("count(2) with MOST 15", x.count(2), 3);
        due("number(2, 0) with MOST 15", x.number(2, 0), 1);
        due("number(0, 1) with LEAST 15", x.number(0, 1), 10);
        x.add(3);
        due("print() with MOST 15", x.print(), NOT);
    }

    private static void aRowOfScenes() {
        says("each a row of 1 to 6 SCENES");
        StoryNumbers x = told(clauses(10));
        due("print() of none", x.print(), NOT);
        for (int k = 0; k < 6; k++) {
            due("add(" + k + ")", x.add(k), k + 1);
        }
        due("add(6) as the seventh", x.add(6), FULL);
        due("count(3)", x.count(3), 6);
        due("drop()", x.drop(), 5);
        due("add(6) as the sixth", x.add(6), 6);
        due("add(5) as the seventh", x.add(5), FULL);
        due("print() of six", x.print(), 0);
        due("number(0, 0)", x.number(0, 0), 6);
        due("number(0, 11)", x.number(0, 11), 6);
        due("print() of none", x.print(), NOT);
        due("add(5) as the first", x.add(5), 1);
        due("print() of one", x.print(), 1);
        due("number(1, 0)", x.number(1, 0), 1);
        due("number(1, 6)", x.number(1, 6), 5);
        due("number(1, 7)", x.number(1, 7), NONE);
        due("add(7)", x.add(7), 1);
        due("add(8)", x.add(8), 2);
        due("add(9)", x.add(9), 3);
        due("print()", x.print(), 2);
        for (int k = 0; k < 10; k++) {
            due("add(" + k + ") printed", x.add(k), NOT);
        }
        says("the NUMBER");
        x = told(clauses(10));
        for (int k = 0; k < 10; k++) {
            x.add(9 - k);
            due("print()", x.print(), k);
            due("count(2)", x.count(2), k + 1);
        }
        due("print() behind the last", x.print(), NOT);
    }

    private static void intoTheDraft() {
        says("A SCENE comes into it, if it MAY behind all printed and all of THE DRAFT");
        StoryNumbers x = told("scene 1;scene 1 after 0;scene 1 after 1;scene 1 needs 3;scene 1 tells 3;scene 1 tells 4;scene 1 with 2;scene 1 dies 2;");
        due("add(1)", x.add(1), NOT);
        due("add(0)", x.add(0), 1);
        due("add(0) again", x.add(0), NOT);
        due("add(2)", x.add(2), NOT);
        due("add(1) behind THE DRAFT", x.add(1), 2);
        due("drop()", x.drop(), 1);
        x.print();
        due("add(0) printed", x.add(0), NOT);
        due("add(1) behind what is printed", x.add(1), 1);
        due("add(2) behind both", x.add(2), 2);
        due("drop()", x.drop(), 2);
        due("drop()", x.drop(), 1);
        due("add(2)", x.add(2), NOT);
        due("add(3)", x.add(3), NOT);
        x.never(3, 4, true);
        due("add(5)", x.add(5), 1);
        due("add(4) with NEVER", x.add(4), NOT);
        x.never(3, 4, false);
        due("add(4)", x.add(4), 2);
        due("add(3)", x.add(3), 3);
        due("add(7)", x.add(7), 4);
        due("add(6) with the dead", x.add(6), NOT);
        due("drop()", x.drop(), 7);
        due("add(6)", x.add(6), 4);
        says("UNKNOWN");
        due("add(8)", x.add(8), UNKNOWN);
        due("add(-1)", x.add(-1), UNKNOWN);
        due("add(MIN)", x.add(Integer.MIN_VALUE), UNKNOWN);
        due("add(MAX)", x.add(Integer.MAX_VALUE), UNKNOWN);
        due("add(0) without a STORY", new StoryNumbers().add(0), UNKNOWN);
        says("The last SCENE of THE DRAFT goes: which; NONE: it is empty");
        x = told(clauses(7));
        due("drop() at first", x.drop(), NONE);
        x.add(6);
        x.add(0);
        due("drop()", x.drop(), 0);
        due("drop()", x.drop(), 6);
        due("drop() of the empty one", x.drop(), NONE);
        number(x, 3);
        due("drop() behind print()", x.drop(), NONE);
        due("count(1)", x.count(1), 1);
    }

    private static void reminders() {
        says("for each PERSON in it who was in some NUMBER, but in none of the last MEMORY ones ahead of it: REMIND lines");
        StoryNumbers x = told("scene 5 with 7;" + "scene 5;".repeat(8) + "scene 5 with 7;");
        for (int k = 0; k < 9; k++) {
            number(x, k);
            x.add(9);
            for (int memory = 1; memory <= 9; memory++) {
                x.law(MEMORY, memory);
                due("lines() " + k + " NUMBERS behind, MEMORY " + memory, x.lines(), k >= memory ? 8 : 5);
            }
            x.drop();
        }
        number(x, 9);
        due("number(9, 1) with MEMORY 9", x.number(9, 1), 5);
        due("number(9, 5) with MEMORY 9", x.number(9, 5), 0);
        x.law(MEMORY, 8);
        due("number(9, 1) with MEMORY 8", x.number(9, 1), 8);
        due("number(9, 5) with MEMORY 8", x.number(9, 5), 128);
        // in two NUMBERS: the latter counts; in none: nobody to remember; twice in this one: once
        x = told("scene 5 with 0;scene 5 with 0;scene 5;scene 5 with 0,1;scene 5 with 0,1;scene 5 dies 0;");
        number(x, 0);
        number(x, 1);
        number(x, 2);
        x.law(MEMORY, 1);
        x.add(3);
        due("lines() of one", x.lines(), 8);
        x.add(4);
        due("lines() of two", x.lines(), 13);
        x.add(5);
        due("lines() of three", x.lines(), 18);
        x.law(MEMORY, 2);
        due("lines() with MEMORY 2", x.lines(), 15);
        x.law(MEMORY, 1);
        x.law(REMIND, 0);
        due("lines() with REMIND 0", x.lines(), 15);
        x.law(REMIND, 20);
        due("lines() with REMIND 20", x.lines(), 35);
        x.print();
        due("number(3, 5)", x.number(3, 5), 1);
        // who dies is in it, told so or not, and is reminded of
        x = told("scene 5 with 3;scene 5;scene 5 dies 3;");
        x.law(MEMORY, 1);
        number(x, 0);
        number(x, 1);
        x.add(2);
        due("lines() of who dies", x.lines(), 8);
        // all eight
        x = told("scene 5 with 0,1,2,3,4,5,6,7;scene 5;scene 5 with 0,1,2,3,4,5,6,7;");
        x.law(MEMORY, 1);
        number(x, 0);
        number(x, 1);
        x.add(2);
        due("lines() of all", x.lines(), 29);
        x.print();
        due("number(2, 5)", x.number(2, 5), 255);
        says("LINES that THE DRAFT would have as a NUMBER");
        due("lines() of the empty one", x.lines(), 0);
    }

    private static void mayBePrinted() {
        says("It may be printed, if LINES are from LEAST to MOST");
        for (int least = 19; least <= 21; least++) {
            StoryNumbers x = told("scene 15;scene 5;");
            x.law(LEAST, least);
            x.add(0);
            x.add(1);
            due("print() of 20 with LEAST " + least, x.print(), least <= 20 ? 0 : NOT);
        }
        for (int most = 19; most <= 21; most++) {
            StoryNumbers x = told("scene 15;scene 5;");
            x.law(MOST, most);
            x.add(0);
            x.add(1);
            due("print() of 20 with MOST " + most, x.print(), most >= 20 ? 0 : NOT);
        }
        // what a reminder adds counts
        for (int law = 22; law <= 24; law++) {
            StoryNumbers x = told("scene 20 with 1;scene 24;scene 20 with 1;");
            x.law(MEMORY, 1);
            number(x, 0);
            number(x, 1);
            x.keep(0);
            x.law(LEAST, law);
            x.add(2);
            due("print() of 23 with LEAST " + law, x.print(), law <= 23 ? 2 : NOT);
            x.goBack(0);
            x.law(MOST, law);
            x.add(2);
            due("print() of 23 with MOST " + law, x.print(), law >= 23 ? 2 : NOT);
        }
        StoryNumbers x = told("scene 99;scene 99;scene 2;scene 1;");
        x.law(MOST, 200);
        x.add(0);
        x.add(1);
        x.add(2);
        x.add(3);
        due("print() of 201", x.print(), NOT);
        x.drop();
        due("print() of 200", x.print(), 0);
        x.add(3);
        due("print() of 1", x.print(), 1);
        says("THE DRAFT is printed (it is empty then). NOT: it is empty, or LINES are not so many as may be");
        due("count(3)", x.count(3), 0);
        due("print() of the empty one", x.print(), NOT);
        due("count(2)", x.count(2), 2);
    }

    private static void pull(StoryNumbers x, int n, int want) {
        due("number(" + n + ", 2)", x.number(n, 2), want);
    }

    private static void joyAndWonder() {
        says("JOY of its SCENES, all together");
        StoryNumbers x = told("scene 1 joy 9;".repeat(7));
        number(x, 0, 1, 2, 3, 4, 5);
        number(x, 6);
        pull(x, 0, 54);
        pull(x, 1, 9);
        says("WONDER times QUESTIONS OPEN behind it and all ahead");
        x = told("scene 1 opens 0,1,2;scene 1;scene 1 shuts 1;scene 1 opens 3,4 shuts 0,2,3;scene 1 shuts 4;");
        numberEach(x, 5);
        x.law(HOOK, 0);
        x.law(TIRED, 0);
        int[] open = {3, 3, 2, 1, 0};
        int[] sets = {7, 7, 5, 16, 0};
        for (int wonder : new int[] {0, 1, 20}) {
            x.law(WONDER, wonder);
            for (int n = 0; n < 5; n++) {
                pull(x, n, wonder * open[n]);
                due("number(" + n + ", 4)", x.number(n, 4), sets[n]);
            }
        }
        x = told("scene 1 opens 0,1,2,3,4,5,6,7;scene 1;");
        x.law(HOOK, 0);
        x.law(WONDER, 20);
        numberEach(x, 2);
        pull(x, 0, 160);
        pull(x, 1, 160);
        due("number(1, 4)", x.number(1, 4), 255);
    }

    private static void hook() {
        says("HOOK, if its last SCENE opens one that is OPEN there");
        StoryNumbers x = told("scene 1 opens 0;scene 1;scene 1 opens 1 shuts 1;scene 1 opens 2,3 shuts 2;scene 1;scene 1 opens 4;scene 1 shuts 4;");
        x.law(WONDER, 0);
        x.law(TIRED, 0);
        x.law(HOOK, 20);
        number(x, 1, 0);
        number(x, 2);
        number(x, 4, 3);
        number(x, 5, 6);
        pull(x, 0, 20);
        pull(x, 1, 0);
        pull(x, 2, 20);
        pull(x, 3, 0);
        x.law(HOOK, 0);
        pull(x, 0, 0);
        // what another SCENE opened, even in the same NUMBER, is no hook
        x = told("scene 1 opens 0;scene 1;");
        x.law(WONDER, 0);
        number(x, 0, 1);
        pull(x, 0, 0);
        // once, however many it opens; what is shut later was OPEN there
        x = told("scene 1 opens 0,1,2;scene 1 shuts 0,1,2;");
        x.law(WONDER, 0);
        number(x, 0);
        pull(x, 0, 4);
        number(x, 1);
        pull(x, 0, 4);
        pull(x, 1, 0);
    }

    private static void tired() {
        says("less TIRED times those OPEN that were opened more than 3 NUMBERS ahead of it");
        StoryNumbers x = told("scene 1 opens 0,1;scene 1 opens 2;scene 1;scene 1;scene 1;scene 1;scene 1 shuts 0;scene 1 shuts 1,2;");
        x.law(WONDER, 0);
        x.law(HOOK, 0);
        numberEach(x, 8);
        int[] many = {0, 0, 0, 0, 2, 3, 2, 0};
        for (int tired : new int[] {0, 1, 20}) {
            x.law(TIRED, tired);
            for (int n = 0; n < 8; n++) {
                pull(x, n, -tired * many[n]);
            }
        }
        // it is the NUMBER that counts, not how many SCENES lie between
        x = told("scene 1 opens 0;" + clauses(8));
        x.law(WONDER, 0);
        x.law(HOOK, 0);
        x.law(TIRED, 7);
        number(x, 0, 1, 2, 3, 4);
        number(x, 5);
        number(x, 6);
        number(x, 7);
        number(x, 8);
        pull(x, 3, 0);
        pull(x, 4, -7);
    }

    private static void readers() {
        says("READERS: 1000 ahead of NUMBER 0");
        StoryNumbers x = told("scene 1 joy 8;scene 1;scene 1;scene 1;scene 1;scene 1;");
        due("readers()", x.readers(), 1000);
        due("readers() without a STORY", new StoryNumbers().readers(), 1000);
        says("what there were times (100 less DULL and its PULL) / 100; / cuts towards 0");
        number(x, 0);
        due("readers()", x.readers(), 1000);
        number(x, 1);
        due("readers()", x.readers(), 920);
        number(x, 2);
        due("readers()", x.readers(), 846);
        number(x, 3);
        due("readers()", x.readers(), 778);
        due("number(0, 3)", x.number(0, 3), 1000);
        due("number(1, 3)", x.number(1, 3), 920);
        due("number(2, 3)", x.number(2, 3), 846);
        x.law(DULL, 0);
        due("readers() with DULL 0", x.readers(), 1080);
        x.law(DULL, 99);
        due("number(0, 3) with DULL 99", x.number(0, 3), 90);
        due("number(1, 3) with DULL 99", x.number(1, 3), 0);
        due("readers() with DULL 99", x.readers(), 0);
    }

    private static void readersFromZero() {
        says("from 0 to 1000000000");
        StoryNumbers x = told("scene 1 opens 0,1,2,3,4,5,6,7;scene 1;scene 1;scene 1;scene 1 shuts 1,2,3,4,5,6,7;scene 1;");
        x.law(HOOK, 0);
        x.law(TIRED, 20);
        x.law(DULL, 99);
        numberEach(x, 6);
        x.law(WONDER, 20);
        due("readers() times 1 / 100", x.number(4, 3), 67);
        x.law(WONDER, 19);
        due("readers() times 0 / 100", x.number(4, 3), 0);
        x.law(WONDER, 18);
        due("readers() times -1 / 100", x.number(4, 3), 0);
        // less than nothing is nothing, and twice less than nothing, too
        x = told("scene 1 opens 0,1,2,3,4,5,6,7;scene 1;scene 1;scene 1;scene 1 shuts 0;scene 1;scene 1 joy 9;");
        x.law(HOOK, 0);
        x.law(TIRED, 20);
        x.law(DULL, 99);
        x.law(WONDER, 18);
        numberEach(x, 7);
        due("number(3, 3)", x.number(3, 3), 4418);
        due("number(4, 2)", x.number(4, 2), -14);
        due("number(4, 3)", x.number(4, 3), 0);
        due("number(5, 3)", x.number(5, 3), 0);
        due("readers()", x.readers(), 0);
        mostReaders();
    }

    /** The bound above can't be reached with ten SCENES; this is about as near to it as they come. */
    private static void mostReaders() {
        StoryNumbers x = told("scene 1 joy 9 opens 0,1,2,3,4,5,6,7;" + "scene 1 joy 9;".repeat(9));
        x.law(HOOK, 20);
        x.law(WONDER, 20);
        x.law(TIRED, 0);
        x.law(DULL, 0);
        numberEach(x, 10);
        long readers = 1000;
        for (int n = 0; n < 10; n++) {
            readers = readers * (n == 0 ? 289 : 269) / 100;
            due("number(" + n + ", 3)", x.number(n, 3), readers);
        }
        due("readers() are more than 21 millions", readers / 1000000, 21);
        due("readers()", x.readers(), readers);
    }

    private static void whatOfANumber() {
        says("Of a NUMBER: what = 0 .. 5, 6 and i its SCENE i (0 .. 5; NONE). UNKNOWN, OUTSIDE");
        StoryNumbers x = told(clauses(10));
        due("number(0, 0) at first", x.number(0, 0), UNKNOWN);
        x.add(9);
        due("number(0, 0) of THE DRAFT", x.number(0, 0), UNKNOWN);
        x.print();
        number(x, 8, 7, 6, 5, 4, 3);
        due("number(0, 6)", x.number(0, 6), 9);
        for (int i = 1; i < 6; i++) {
            due("number(0, " + (6 + i) + ")", x.number(0, 6 + i), NONE);
        }
        for (int i = 0; i < 6; i++) {
            due("number(1, " + (6 + i) + ")", x.number(1, 6 + i), 8 - i);
        }
        due("number(1, 12)", x.number(1, 12), OUTSIDE);
        due("number(1, -1)", x.number(1, -1), OUTSIDE);
        due("number(1, MIN)", x.number(1, Integer.MIN_VALUE), OUTSIDE);
        due("number(1, MAX)", x.number(1, Integer.MAX_VALUE), OUTSIDE);
        due("number(-1, 0)", x.number(-1, 0), UNKNOWN);
        due("number(1, 0)", x.number(1, 0), 6);
        due("number(2, 0)", x.number(2, 0), UNKNOWN);
        due("number(MIN, 0)", x.number(Integer.MIN_VALUE, 0), UNKNOWN);
        due("number(MAX, 0)", x.number(Integer.MAX_VALUE, 0), UNKNOWN);
        number(x, 0);
        number(x, 1);
        due("number(3, 0)", x.number(3, 0), 1);
        due("number(4, 0)", x.number(4, 0), UNKNOWN);
    }

    public static void main(String[] args) {
        laws();
        leastAndMost();
        lawsOfPrintedNumbers();
        aRowOfScenes();
        intoTheDraft();
        reminders();
        mayBePrinted();
        joyAndWonder();
        hook();
        tired();
        readers();
        readersFromZero();
        whatOfANumber();
        end("bounds of numbers");
    }
}
