/** The bounds that "2 A SCENE MAY" and the promises 8 to 17 name, each sentence just inside and just outside. */
public final class StoryNumbersOrderBounds extends Answers {
    private static void may(StoryNumbers x, int k, int set, int want) {
        due("may(" + k + ", " + set + ")", x.may(k, set), want);
        due("next(" + set + ") of " + k, x.next(set) >> k & 1, want);
    }

    private static void inItAlready() {
        says("if it is not in it");
        StoryNumbers x = told(clauses(10));
        for (int k = 0; k < 10; k++) {
            may(x, k, 0, 1);
            may(x, k, 1 << k, 0);
            may(x, k, 1023 & ~(1 << k), 1);
            may(x, k, 1023, 0);
        }
    }

    private static void after() {
        says("all of its 'after' are in it");
        StoryNumbers x = told("scene 1;scene 1;scene 1 after 0,1;scene 1 after 2;");
        may(x, 2, 0, 0);
        may(x, 2, 1, 0);
        may(x, 2, 2, 0);
        may(x, 2, 3, 1);
        may(x, 2, 11, 1);
        // behind a SET that no ORDER has, too
        may(x, 3, 4, 1);
        may(x, 3, 3, 0);
    }

    private static void shuts() {
        says("each QUESTION it shuts is opened by a SCENE in it, or by itself");
        StoryNumbers x = told("scene 1 opens 0;scene 1 opens 7;scene 1 opens 2 shuts 0,2,7;scene 1 shuts 3;scene 1 opens 4 shuts 4;");
        may(x, 2, 0, 0);
        may(x, 2, 1, 0);
        may(x, 2, 2, 0);
        may(x, 2, 3, 1);
        may(x, 3, 0, 0);
        may(x, 3, 23, 0);
        may(x, 4, 0, 1);
    }

    private static void needs() {
        says("each FACT it needs is told by a SCENE in it");
        StoryNumbers x = told("scene 1 tells 0;scene 1 tells 0,7;scene 1 tells 7;scene 1 needs 0,7;scene 1 tells 5 needs 5;scene 1 needs 6;");
        may(x, 3, 0, 0);
        may(x, 3, 1, 0);
        may(x, 3, 4, 0);
        may(x, 3, 5, 1);
        may(x, 3, 2, 1);
        // itself is not behind it
        may(x, 4, 0, 0);
        may(x, 4, 47, 0);
        may(x, 5, 31, 0);
    }

    private static void never() {
        says("no FACT it tells is NEVER with one that a SCENE in it tells, or it tells itself");
        StoryNumbers x = told("scene 1 tells 0;scene 1 tells 7;scene 1 tells 0,7;scene 1 tells 1;scene 1 needs 0,7;");
        for (int k = 0; k < 4; k++) {
            may(x, k, 15 & ~(1 << k), 1);
        }
        x.never(7, 0, true);
        may(x, 0, 0, 1);
        may(x, 0, 2, 0);
        may(x, 1, 1, 0);
        may(x, 1, 8, 1);
        may(x, 2, 0, 0);
        may(x, 3, 7, 1);
        // only what it tells counts, not what it needs or what the SET holds
        may(x, 4, 3, 1);
        may(x, 0, 4, 0);
        x.never(7, 1, true);
        may(x, 3, 1, 1);
        may(x, 3, 2, 0);
        x.never(7, 0, false);
        may(x, 0, 2, 1);
        may(x, 2, 0, 1);
        may(x, 2, 8, 0);
        // one FACT may be told twice
        may(x, 2, 1, 1);
    }

    private static String factsBut(int f) {
        StringBuilder facts = new StringBuilder();
        for (int g = 0; g < 8; g++) {
            facts.append(g == f ? "" : (facts.length() == 0 ? "" : ",") + g);
        }
        return facts.toString();
    }

    private static void everyPairOfNever() {
        for (int f = 0; f < 8; f++) {
            StoryNumbers x = told("scene 1 tells " + f + ";scene 1 tells " + factsBut(f) + ";");
            may(x, 0, 2, 1);
            may(x, 1, 1, 1);
            for (int g = 0; g < 8; g++) {
                if (g != f) {
                    x.never(f, g, true);
                    may(x, 0, 2, 0);
                    may(x, 1, 1, 0);
                    may(x, 0, 0, 1);
                    may(x, 1, 0, 1);
                    x.never(g, f, false);
                }
            }
            // both by itself
            x.never((f + 1) % 8, (f + 2) % 8, true);
            may(x, 1, 0, 0);
            may(x, 0, 0, 1);
        }
    }

    private static void dies() {
        says("nobody who is in it dies in a SCENE of the SET");
        StoryNumbers x = told("scene 1 with 0,7;scene 1 dies 0;scene 1 dies 7;scene 1 with 6;scene 1 with 0,6 dies 6;");
        may(x, 0, 0, 1);
        may(x, 0, 2, 0);
        may(x, 0, 4, 0);
        may(x, 0, 8, 1);
        may(x, 0, 16, 1);
        may(x, 3, 6, 1);
        may(x, 3, 16, 0);
        // who dies is in the SCENE, and that is no hindrance to it
        may(x, 1, 1, 1);
        may(x, 1, 0, 1);
        may(x, 4, 0, 1);
        may(x, 4, 2, 0);
        may(x, 4, 8, 1);
    }

    private static void setArguments() {
        says("UNKNOWN (bits, too)");
        for (int n = 0; n <= 10; n++) {
            StoryNumbers x = told(clauses(n));
            int all = (1 << n) - 1;
            due("next(all) of " + n, x.next(all), 0);
            due("open(all) of " + n, x.open(all), 0);
            due("atOnce(all) of " + n, x.atOnce(all), 0);
            due("orders(0) of " + n, x.orders(0), 1);
            due("order(all, 0, n - 1) of " + n, x.order(all, 0, n - 1), n - 1);
            for (int set : new int[] {all + 1, all + 2, -1, Integer.MIN_VALUE, Integer.MAX_VALUE, 1 << 30, 1 << 31 | all}) {
                due("may(0, " + set + ") of " + n, x.may(0, set), UNKNOWN);
                due("next(" + set + ") of " + n, x.next(set), UNKNOWN);
                due("orders(" + set + ") of " + n, x.orders(set), UNKNOWN);
                due("order(" + set + ", 0, 0) of " + n, x.order(set, 0, 0), UNKNOWN);
                due("open(" + set + ") of " + n, x.open(set), UNKNOWN);
                due("atOnce(" + set + ") of " + n, x.atOnce(set), UNKNOWN);
            }
        }
    }

    private static void sceneArguments() {
        says("UNKNOWN (a SCENE that there is not), OUTSIDE (another number out of its bounds)");
        for (int n = 0; n <= 10; n++) {
            StoryNumbers x = told(clauses(n));
            for (int k : new int[] {-1, n, n + 1, 31, 32, Integer.MIN_VALUE, Integer.MAX_VALUE}) {
                due("may(" + k + ", 0) of " + n, x.may(k, 0), UNKNOWN);
                due("place(" + k + ", 0) of " + n, x.place(k, 0), UNKNOWN);
                due("along(" + k + ") of " + n, x.along(k), UNKNOWN);
                due("shortest(" + k + ", 0) of " + n, x.shortest(k, 0), UNKNOWN);
            }
            int last = n - 1;
            due("may(last, 0) of " + n, x.may(last, 0), n == 0 ? UNKNOWN : 1);
            due("place(last, 0) of " + n, x.place(last, 0), n == 0 ? UNKNOWN : 0);
            due("place(last, 1) of " + n, x.place(last, 1), n == 0 ? UNKNOWN : last);
            due("along(last) of " + n, x.along(last), n == 0 ? UNKNOWN : 1 << last);
            due("shortest(last, 0) of " + n, x.shortest(last, 0), n == 0 ? UNKNOWN : 1 << last);
            due("shortest(last, 1) of " + n, x.shortest(last, 1), n == 0 ? UNKNOWN : 1);
        }
        StoryNumbers x = told("scene 3;");
        for (int what : new int[] {-1, 2, Integer.MIN_VALUE, Integer.MAX_VALUE}) {
            due("place(0, " + what + ")", x.place(0, what), OUTSIDE);
            due("shortest(0, " + what + ")", x.shortest(0, what), OUTSIDE);
        }
    }

    private static void goodSets() {
        says("GOOD are SETS that have an ORDER (the empty one, too)");
        due("good() of nothing", new StoryNumbers().good(), 1);
        due("good() of one that may not", told("scene 1 needs 0;").good(), 1);
        due("good() of one that may", told("scene 1;").good(), 2);
        due("good() of all", told(clauses(10)).good(), 1024);
        StoryNumbers x = told("scene 1;" + "scene 1 after 0;".repeat(9));
        due("good() behind one", x.good(), 1 + 512);
        due("orders(0)", x.orders(0), 1);
        due("orders(1)", x.orders(1), 1);
        due("orders(2)", x.orders(2), 0);
        due("atOnce(0)", x.atOnce(0), 0);
        due("atOnce(2)", x.atOnce(2), NONE);
        // each MAY behind the other alone, but none ahead of both
        x = told("scene 1 tells 0 needs 1;scene 1 tells 1 needs 0;");
        due("good() in a ring", x.good(), 1);
        due("may(0, 2)", x.may(0, 2), 1);
        due("orders(3)", x.orders(3), 0);
        // of two who tell what is NEVER so, either may be there
        x = told("scene 1 tells 0;scene 1 tells 1;");
        due("good()", x.good(), 4);
        x.never(0, 1, true);
        due("good() with NEVER", x.good(), 3);
        x.never(0, 1, false);
        due("good() without", x.good(), 4);
    }

    private static void iOfAnOrder() {
        says("SCENE j of the i-th ORDER of a SET; NONE: there is none such");
        StoryNumbers x = told(clauses(10));
        long last = 3628799;
        for (int j = 0; j < 10; j++) {
            due("order(1023, 0, " + j + ")", x.order(1023, 0, j), j);
            due("order(1023, last, " + j + ")", x.order(1023, last, j), 9 - j);
            due("order(1023, last + 1, " + j + ")", x.order(1023, last + 1, j), NONE);
        }
        due("order(1023, 1, 9)", x.order(1023, 1, 9), 8);
        due("order(1023, 1, 8)", x.order(1023, 1, 8), 9);
        due("order(1023, 10, 10)", x.order(1023, 10, 10), NONE);
        due("order(1023, 10, -1)", x.order(1023, 10, -1), NONE);
        for (long i : new long[] {1L << 31, 1L << 32, (1L << 32) + 5, Long.MAX_VALUE}) {
            due("order(1023, " + i + ", 0)", x.order(1023, i, 0), NONE);
        }
        for (int j : new int[] {Integer.MIN_VALUE, 31, 32, Integer.MAX_VALUE}) {
            due("order(1023, 0, " + j + ")", x.order(1023, 0, j), NONE);
        }
        due("order(0, 0, 0)", x.order(0, 0, 0), NONE);
        due("order(512, 0, 0)", x.order(512, 0, 0), 9);
        due("order(512, 1, 0)", x.order(512, 1, 0), NONE);
        says("OUTSIDE (i below 0)");
        due("order(1023, -1, 0)", x.order(1023, -1, 0), OUTSIDE);
        due("order(1023, MIN, 0)", x.order(1023, Long.MIN_VALUE, 0), OUTSIDE);
        due("order(1023, -2^32, 0)", x.order(1023, -1L << 32, 0), OUTSIDE);
        due("order(1023, -1, 10)", x.order(1023, -1, 10), OUTSIDE);
        due("order(0, -1, 0)", x.order(0, -1, 0), OUTSIDE);
    }

    private static void ordersHeldAgainstOneAnother() {
        says("ORDERS are held against one another SCENE by SCENE, the lesser number ahead");
        StoryNumbers x = told("scene 1;scene 1;scene 1 after 1;scene 1 after 0;");
        int[][] orders = {{0, 1, 2, 3}, {0, 1, 3, 2}, {0, 3, 1, 2}, {1, 0, 2, 3}, {1, 0, 3, 2}, {1, 2, 0, 3}};
        due("orders(15)", x.orders(15), orders.length);
        for (int i = 0; i < orders.length; i++) {
            for (int j = 0; j < 4; j++) {
                due("order(15, " + i + ", " + j + ")", x.order(15, i, j), orders[i][j]);
            }
        }
        due("order(15, 6, 0)", x.order(15, orders.length, 0), NONE);
        // another SET, and the first one again
        due("order(6, 0, 0)", x.order(6, 0, 0), 1);
        due("order(6, 1, 0)", x.order(6, 1, 0), NONE);
        due("order(15, 5, 3)", x.order(15, 5, 3), 3);
        tell(x, "scene 1;scene 1;scene 1 after 0,1;scene 1 after 2;");
        due("order(15, 1, 0) of another story", x.order(15, 1, 0), 1);
        due("order(15, 2, 0) of another story", x.order(15, 2, 0), NONE);
        x = told("scene 1 tells 0;scene 1 tells 1;scene 1;");
        due("order(7, 5, 0)", x.order(7, 5, 0), 2);
        x.never(0, 1, true);
        due("order(7, 0, 0) with NEVER", x.order(7, 0, 0), NONE);
        due("order(5, 1, 0) with NEVER", x.order(5, 1, 0), 2);
        x.never(0, 1, false);
        due("order(7, 5, 1) without", x.order(7, 5, 1), 1);
    }

    private static void places() {
        says("The least (what = 0), the greatest (1) place that a SCENE has in an ORDER of all SCENES; NONE");
        StoryNumbers x = told("scene 1;scene 1 after 0;scene 1 after 0;scene 1 after 1,2;scene 1;");
        int[][] places = {{0, 1}, {1, 3}, {1, 3}, {3, 4}, {0, 4}};
        for (int k = 0; k < 5; k++) {
            due("place(" + k + ", 0)", x.place(k, 0), places[k][0]);
            due("place(" + k + ", 1)", x.place(k, 1), places[k][1]);
        }
        // 1 MAY come first, but then 0 may never come: no ORDER of all has it there
        x = told("scene 1 with 0;scene 1 dies 0;scene 1 with 0;");
        due("place(1, 0)", x.place(1, 0), 2);
        due("place(0, 1)", x.place(0, 1), 1);
        x = told("scene 1 tells 0;scene 1 tells 1;scene 1;");
        due("place(2, 1)", x.place(2, 1), 2);
        x.never(0, 1, true);
        for (int k = 0; k < 3; k++) {
            due("place(" + k + ", 0) with NEVER", x.place(k, 0), NONE);
            due("place(" + k + ", 1) with NEVER", x.place(k, 1), NONE);
        }
        x.never(1, 0, false);
        due("place(2, 1) without", x.place(2, 1), 2);
    }

    private static void open() {
        says("OPEN behind a SET are QUESTIONS that a SCENE of it opens and none shuts");
        StoryNumbers x = told("scene 1 opens 0,7;scene 1 shuts 7;scene 1 opens 3 shuts 3;scene 1 opens 1,2,4,5,6;");
        due("open(0)", x.open(0), 0);
        due("open(1)", x.open(1), 129);
        due("open(2)", x.open(2), 0);
        due("open(3)", x.open(3), 1);
        due("open(4)", x.open(4), 0);
        due("open(8)", x.open(8), 2 + 4 + 16 + 32 + 64);
        due("open(9)", x.open(9), 255 - 8);
        due("open(15)", x.open(15), 255 - 8 - 128);
    }

    private static void atOnce() {
        says("AT ONCE of an ORDER: the most that are OPEN behind some of its first SCENES");
        StoryNumbers x = told("scene 1 opens 0,1,2,3,4,5,6,7;scene 1 shuts 0,1,2,3,4,5,6,7;");
        due("atOnce(0)", x.atOnce(0), 0);
        due("atOnce(1)", x.atOnce(1), 8);
        due("atOnce(3): the most is not at the end", x.atOnce(3), 8);
        due("atOnce(2)", x.atOnce(2), NONE);
        x = told("scene 1 opens 0;scene 1 after 0 opens 1,2;");
        due("atOnce(3): the most is at the end", x.atOnce(3), 3);
        due("atOnce(1)", x.atOnce(1), 1);
        says("FEWEST AT ONCE of a SET: the least of all its ORDERS");
        x = told("scene 1 opens 0;scene 1 opens 1;scene 1 shuts 0;scene 1 shuts 1;");
        due("atOnce(15)", x.atOnce(15), 1);
        due("atOnce(11)", x.atOnce(11), 1);
        due("atOnce(3)", x.atOnce(3), 2);
        // the way with the fewest is cut off: 2 may not come ahead of 1
        x = told("scene 1 opens 0;scene 1 opens 1;scene 1 after 1 shuts 0;scene 1 shuts 1;");
        due("atOnce(15)", x.atOnce(15), 1);
        x = told("scene 1 opens 0;scene 1 after 0 opens 1;scene 1 after 1 shuts 0;scene 1 shuts 1;");
        due("atOnce(15)", x.atOnce(15), 2);
        due("atOnce(11)", x.atOnce(11), 2);
        x = told("scene 1 opens 0 shuts 0;");
        due("atOnce(1): shut where it is opened", x.atOnce(1), 0);
    }

    private static void along() {
        says("TAKEN ALONG by a SCENE: the SET (it is in it; also those that are in no GOOD SET at all)");
        StoryNumbers x = told("scene 1;scene 1 after 0;scene 1 after 1;scene 1;");
        due("along(0)", x.along(0), 7);
        due("along(1)", x.along(1), 6);
        due("along(2)", x.along(2), 4);
        due("along(3)", x.along(3), 8);
        x = told("scene 1;scene 1 needs 0;scene 1;");
        due("along(0)", x.along(0), 3);
        due("along(1) in no GOOD SET itself", x.along(1), 2);
        due("along(2)", x.along(2), 6);
        // two tell it: the cut of one takes nothing along, until the other can't be
        x = told("scene 1 tells 0;scene 1 tells 0,1;scene 1 tells 2 needs 0;");
        due("along(0)", x.along(0), 1);
        due("along(1)", x.along(1), 2);
        x.never(1, 2, true);
        due("along(0): 1 and 2 are NEVER both", x.along(0), 5);
        due("along(1)", x.along(1), 2);
        due("along(0) of one", told("scene 1;").along(0), 1);
    }

    private static void shortest() {
        says("of GOOD SETS that have it that with the fewest lines (of like ones the least SET)");
        StoryNumbers x = told("scene 5 tells 0;scene 4 tells 0;scene 3 needs 0;scene 4 tells 0;scene 99 needs 7;");
        due("shortest(2, 0)", x.shortest(2, 0), 6);
        due("shortest(2, 1)", x.shortest(2, 1), 7);
        due("shortest(0, 0)", x.shortest(0, 0), 1);
        due("shortest(3, 0)", x.shortest(3, 0), 8);
        due("shortest(3, 1)", x.shortest(3, 1), 4);
        says("THE SHORTEST to a SCENE: NONE");
        due("shortest(4, 0)", x.shortest(4, 0), NONE);
        due("shortest(4, 1)", x.shortest(4, 1), NONE);
        // fewer lines go ahead of a lesser SET
        x = told("scene 5 tells 0;scene 5 tells 1;scene 9 tells 0,1;scene 1 needs 0,1;");
        due("shortest(3, 0)", x.shortest(3, 0), 12);
        due("shortest(3, 1)", x.shortest(3, 1), 10);
        x = told("scene 5 tells 0;scene 5 tells 1;scene 10 tells 0,1;scene 1 needs 0,1;");
        due("shortest(3, 0) of like ones", x.shortest(3, 0), 11);
        x.never(0, 1, true);
        due("shortest(3, 0) with NEVER", x.shortest(3, 0), NONE);
        // the most lines that there are
        StringBuilder all = new StringBuilder("scene 99;");
        for (int k = 1; k < 10; k++) {
            all.append("scene 99 after ").append(k - 1).append(';');
        }
        x = told(all.toString());
        due("shortest(9, 0) of all", x.shortest(9, 0), 1023);
        due("shortest(9, 1) of all", x.shortest(9, 1), 990);
    }

    public static void main(String[] args) {
        inItAlready();
        after();
        shuts();
        needs();
        never();
        everyPairOfNever();
        dies();
        setArguments();
        sceneArguments();
        goodSets();
        iOfAnOrder();
        ordersHeldAgainstOneAnother();
        places();
        open();
        atOnce();
        along();
        shortest();
        end("bounds of orders");
    }
}
