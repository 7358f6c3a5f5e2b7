import java.lang.reflect.Constructor;
import java.lang.reflect.Field;
import java.lang.reflect.Method;
import java.lang.reflect.Modifier;
import java.util.TreeSet;

/** A method a promise: ordinary inputs, the edges that the document names, wrong inputs. */
public final class StoryNumbersPromises extends Answers {
    private static final String STORY = "scene 10 joy 3 with 0,1 opens 0;scene 12 with 1 after 0 opens 1 tells 2;"
            + "scene 8 with 2,0 after 0 shuts 1;scene 20 joy 9 with 0 shuts 0 needs 2;scene 5 opens 2 dies 1;";

    private static void theFace() {
        TreeSet<String> names = new TreeSet<>();
        for (Method m : StoryNumbers.class.getDeclaredMethods()) {
            if (!Modifier.isPrivate(m.getModifiers())) {
                due("public " + m, Modifier.isPublic(m.getModifiers()) && !Modifier.isStatic(m.getModifiers()) ? 1 : 0, 1);
                names.add(m.getName());
            }
        }
        due("methods " + names, names.size(), 28);
        for (Method m : StoryNumbers.class.getDeclaredMethods()) {
            due("private " + m, Modifier.isPrivate(m.getModifiers()) && names.contains(m.getName()) ? 1 : 0, 0);
        }
        int constants = 0;
        for (Field f : StoryNumbers.class.getDeclaredFields()) {
            constants += Modifier.isPrivate(f.getModifiers()) ? 0 : 1;
        }
        due("constants", constants, 5);
        Constructor<?>[] constructors = StoryNumbers.class.getDeclaredConstructors();
        due("constructors", constructors.length, 1);
        due("final", Modifier.isFinal(StoryNumbers.class.getModifiers()) ? 1 : 0, 1);
        due("NONE", StoryNumbers.NONE, NONE);
        due("UNKNOWN", StoryNumbers.UNKNOWN, UNKNOWN);
        due("OUTSIDE", StoryNumbers.OUTSIDE, OUTSIDE);
        due("NOT", StoryNumbers.NOT, NOT);
        due("FULL", StoryNumbers.FULL, FULL);
    }

    private static void promise1NewObject() {
        StoryNumbers x = new StoryNumbers();
        for (int what = 0; what < 8; what++) {
            due("count(" + what + ") at first", x.count(what), 0);
        }
        due("fault() at first", x.fault(), NONE);
        due("scene(0, 0) at first", x.scene(0, 0), UNKNOWN);
        due("good() at first", x.good(), 1);
        due("orders(0) at first", x.orders(0), 1);
        due("order(0, 0, 0) at first", x.order(0, 0, 0), NONE);
        due("next(0) at first", x.next(0), 0);
        due("open(0) at first", x.open(0), 0);
        due("atOnce(0) at first", x.atOnce(0), 0);
        due("next(1) at first", x.next(1), UNKNOWN);
        due("lines() at first", x.lines(), 0);
        due("drop() at first", x.drop(), NONE);
        due("print() at first", x.print(), NOT);
        due("readers() at first", x.readers(), 1000);
        due("plan(1, 0, NONE) at first", x.plan(1, 0, NONE), NONE);
        due("kind(1, 0, 0) at first", x.kind(1, 0, 0), NONE);
        due("chapter(1, NONE) at first", x.chapter(1, NONE), NOT);
        int[] laws = {1, 60, 2, 3, 4, 2, 1, 8};
        for (int what = 0; what < 8; what++) {
            due("law(" + what + ") at first", x.law(what, laws[what]), laws[what]);
        }
    }

    private static void promise2Feed() {
        StoryNumbers x = new StoryNumbers();
        due("feed(0)", x.feed(0, 1), OUTSIDE);
        due("feed(9)", x.feed(9, 1), OUTSIDE);
        due("feed(-1)", x.feed(-1, 1), OUTSIDE);
        due("feed(MIN)", x.feed(Integer.MIN_VALUE, 1), OUTSIDE);
        due("feed(MAX)", x.feed(Integer.MAX_VALUE, 1), OUTSIDE);
        due("count(5)", x.count(5), 0);
        // only the lowest n bytes count, the highest of these first
        due("feed(3)", x.feed(3, 0x4141414141000000L | 's' << 16 | 'c' << 8 | 'e'), 3);
        due("feed(4)", x.feed(4, 0xffffffff00000000L | 'n' << 24 | 'e' << 16 | '4' << 8 | '2'), 7);
        due("feed(1)", x.feed(1, -256L | ';'), 8);
        due("story()", x.story(), 1);
        due("scene(0, 0)", x.scene(0, 0), 42);
        for (int i = 0; i < 49; i++) {
            due("feed(8)", x.feed(8, 0x2020202020202020L), 8 * i + 8);
        }
        due("feed(7) at 392", x.feed(7, 0x2020202020202020L), 399);
        due("feed(2) at 399", x.feed(2, 0x2020), FULL);
        due("feed(8) at 399", x.feed(8, 0x2020), FULL);
        due("feed(9) at 399", x.feed(9, 0x2020), OUTSIDE);
        due("count(5) at 399", x.count(5), 399);
        due("feed(1) at 399", x.feed(1, 0x20), 400);
        due("feed(1) at 400", x.feed(1, 0x20), FULL);
        due("story() of blanks", x.story(), 0);
        due("feed(1) then", x.feed(1, 0x20), 1);
    }

    private static void promise3Story() {
        sound("", 0);
        sound("   ", 0);
        sound("scene1;", 1);
        sound("scene5joy3with0,1;", 1);
        sound("  scene  05  joy  09  with  07 , 0 ;  ", 1);
        sound("scene1joy2with3opens4shuts5tells6needs7dies0;scene99after0;", 2);
        sound(TEN, 10);
        sound(TEN + "  ", 10);
        StoryNumbers x = told(STORY);
        x.never(0, 1, true);
        x.law(3, 9);
        x.keep(0);
        number(x, 0);
        x.add(1);
        due("story() anew", tell(x, "scene 9;"), 1);
        due("count(1) anew", x.count(1), 0);
        due("count(2) anew", x.count(2), 0);
        due("count(3) anew", x.count(3), 0);
        due("count(6) anew", x.count(6), 1);
        due("law(3) anew", x.law(3, 3), 9);
        number(x, 0);
        due("story() with a FAULT", tell(x, "scene;"), -11);
        due("count(1) behind the FAULT", x.count(1), 1);
        due("count(4) behind the FAULT", x.count(4), 9);
        due("story() of nothing", x.story(), 0);
        due("count(0) of nothing", x.count(0), 0);
        due("count(1) of nothing", x.count(1), 0);
        due("good() of nothing", x.good(), 1);
    }

    private static void promise4Fault() {
        faultsOfPlace();
        faultsOfNumbers();
        StoryNumbers x = told("scene 1;");
        due("fault() behind a sound text", x.fault(), NONE);
        tell(x, "scene 0;");
        due("fault()", x.fault(), 6);
        feed(x, "scene 1;");
        due("fault() ahead of story()", x.fault(), 6);
        x.story();
        due("fault() behind the next", x.fault(), NONE);
    }

    private static void faultsOfPlace() {
        faulty("s", 1, 0);
        faulty(" Scene 1;", 1, 1);
        faulty("sceneX1;", 1, 5);
        faulty("scenejoy 1;", 1, 0);
        faulty("joy 1;", 1, 0);
        faulty("5;", 1, 0);
        faulty("100;", 1, 0);
        faulty(";", 1, 0);
        faulty(",", 1, 0);
        faulty("scene;", 1, 5);
        faulty("scene", 1, 5);
        faulty("scene  ", 1, 7);
        faulty("scene joy 1;", 1, 6);
        faulty("scene 5  ", 1, 9);
        faulty("scene 5;;", 1, 8);
        faulty("scene 5; 5;", 1, 9);
        faulty("scene 1 2;", 1, 8);
        faulty("scene 1,2;", 1, 7);
        faulty("scene 1 scene 2;", 1, 8);
        faulty("scene 1 joy 1,2;", 1, 13);
        faulty("scene 1 joy;", 1, 11);
        faulty("scene 1 joy 1 2;", 1, 14);
        faulty("scene 1 with 1 2;", 1, 15);
        faulty("scene 1 with 1,;", 1, 15);
        faulty("scene 1 with ,1;", 1, 13);
        faulty("scene 1 with 1,,2;", 1, 15);
        faulty("scene 1 with 1, after 0;", 1, 16);
        faulty("scene 1 with", 1, 12);
        faulty("scene5joy3with0,1after", 1, 22);
        faulty("scene 1 dies 1,2;", 1, 14);
        faulty("scene 1 dies 1 joy 3;", 1, 15);
        faulty("scene 1 dies 1 dies 2;", 1, 15);
        faulty("scene 1 with 1 with 2;", 1, 15);
        faulty("scene 1 needs 1 tells 2;", 1, 16);
        faulty("scene 1 open 1;", 1, 8);
        faulty("scene 1 openss 1;", 1, 8);
        faulty("scene 1 with1;sce", 1, 14);
        faulty("scene\t1;", 1, 5);
        faulty("scene 1" + (char) 160 + ";", 1, 7);
        faulty("scene 1" + (char) 0 + ";", 1, 7);
        faulty("scene -1;", 1, 6);
        faulty("scene 1;scene 2 with 1\u00e9;", 1, 22);
    }

    private static void faultsOfNumbers() {
        faulty("scene 0;", 2, 6);
        faulty("scene 00;", 2, 6);
        faulty("scene 100", 2, 6);
        faulty("scene 001;", 2, 6);
        faulty("scene  12345678901234567890;", 2, 7);
        faulty("scene 1 joy 10;", 2, 12);
        faulty("scene 1 joy 000;", 2, 12);
        faulty("scene 1 with 8;", 2, 13);
        faulty("scene 1 with 1,1,8;", 3, 15);
        faulty("scene 1 with 1,8,1;", 2, 15);
        faulty("scene 1 with 1,01;", 3, 15);
        faulty("scene 1 after 10;", 2, 14);
        faulty("scene 1 after 9;", 4, 14);
        faulty("scene 1;scene 1 after 0,0;", 3, 24);
        faulty("scene 1;scene 1 after 1;", 4, 22);
        faulty("scene 1 opens 8;", 2, 14);
        faulty("scene 1 opens 3,3;", 3, 16);
        faulty("scene 1 opens 3;scene 1 opens 3,3;", 6, 30);
        faulty("scene 1 shuts 8;", 2, 14);
        faulty("scene 1 shuts 3;scene 1 shuts 1,3;", 6, 32);
        faulty("scene 1 tells 8;", 2, 14);
        faulty("scene 1 tells 7,7;", 3, 16);
        faulty("scene 1 needs 8;", 2, 14);
        faulty("scene 1 needs 7,7;", 3, 16);
        faulty("scene 1 dies 8;", 2, 13);
        faulty("scene 1 dies 100;", 2, 13);
        faulty("scene 1 dies 7;scene 1 dies 7;", 7, 28);
        faulty(TEN + "scene", 5, 71);
        faulty(TEN + " scene 0;", 5, 72);
        faulty(TEN + "scenes 1;", 1, 71);
        faulty(TEN + "1;", 1, 71);
        sound("scene 1 opens 3 shuts 3;scene 1 shuts 4;scene 1 tells 3;scene 1 tells 3 needs 3;", 4);
        sound("scene 1 dies 6;scene 1 with 6;scene 1 with 5 dies 5;", 3);
        sound("scene 1 with 0,1,2,3,4,5,6,7;", 1);
        sound(TEN.substring(0, 63) + "scene1after0,1,2,3,4,5,6,7,8;", 10);
    }

    private static void promise5Scene() {
        StoryNumbers x = told("scene 99;scene 7 joy 9 with 0,7 after 0 opens 1,2 shuts 2,3 tells 4 needs 5,6 dies 3;");
        int[] second = {7, 9, 1 + 128 + 8, 1, 6, 12, 16, 96, 3, NONE};
        int[] first = {99, 0, 0, 0, 0, 0, 0, 0, NONE, NONE};
        for (int what = 0; what < 10; what++) {
            due("scene(0, " + what + ")", x.scene(0, what), first[what]);
            due("scene(1, " + what + ")", x.scene(1, what), second[what]);
        }
        due("scene(0, -1)", x.scene(0, -1), OUTSIDE);
        due("scene(0, 10)", x.scene(0, 10), OUTSIDE);
        due("scene(2, 0)", x.scene(2, 0), UNKNOWN);
        for (int w : WRONG) {
            due("scene(" + w + ", 0)", x.scene(w, 0), UNKNOWN);
            due("scene(" + w + ", -1)", x.scene(w, -1), UNKNOWN);
            due("scene(0, " + w + ")", x.scene(0, w), OUTSIDE);
        }
        x = told("scene 5;scene 6;scene 7;");
        number(x, 2);
        number(x, 0);
        x.add(1);
        due("scene(2, 9)", x.scene(2, 9), 0);
        due("scene(0, 9)", x.scene(0, 9), 1);
        due("scene(1, 9)", x.scene(1, 9), NONE);
    }

    private static void promise6Never() {
        StoryNumbers x = told("scene 1 tells 0;scene 1 tells 7;scene 1 tells 2,3;");
        due("never(0, 7, false)", x.never(0, 7, false), 0);
        due("may(1, 1)", x.may(1, 1), 1);
        due("never(0, 7, true)", x.never(0, 7, true), 0);
        due("never(7, 0, true)", x.never(7, 0, true), 1);
        due("count(6)", x.count(6), 1);
        due("may(1, 1)", x.may(1, 1), 0);
        due("may(0, 2)", x.may(0, 2), 0);
        due("may(2, 3)", x.may(2, 3), 1);
        due("never(3, 2, true)", x.never(3, 2, true), 0);
        due("count(6)", x.count(6), 2);
        due("may(2, 0)", x.may(2, 0), 0);
        due("never(2, 3, false)", x.never(2, 3, false), 1);
        due("count(6)", x.count(6), 1);
        due("may(2, 0)", x.may(2, 0), 1);
        due("never(4, 4, true)", x.never(4, 4, true), UNKNOWN);
        due("never(4, 8, true)", x.never(4, 8, true), UNKNOWN);
        due("never(8, 4, true)", x.never(8, 4, true), UNKNOWN);
        for (int w : WRONG) {
            due("never(0, " + w + ")", x.never(0, w, true), UNKNOWN);
            due("never(" + w + ", 0)", x.never(w, 0, true), UNKNOWN);
        }
        due("count(6)", x.count(6), 1);
    }

    private static void promise7Count() {
        StoryNumbers x = told(STORY);
        number(x, 0, 1);
        number(x, 3);
        x.add(2);
        x.never(1, 2, true);
        feed(x, "scene");
        int[] counts = {5, 3, 2, 1, 55, 5, 1, 3};
        for (int what = 0; what < 8; what++) {
            due("count(" + what + ")", x.count(what), counts[what]);
        }
        due("count(8)", x.count(8), OUTSIDE);
        for (int w : WRONG) {
            due("count(" + w + ")", x.count(w), OUTSIDE);
        }
        x = told("scene 99 opens 0,7;scene 99 shuts 1;");
        due("count(4)", x.count(4), 198);
        due("count(7)", x.count(7), 2);
    }

    private static void promise8May() {
        StoryNumbers x = told("scene 1 opens 0 tells 0;scene 1 after 0;scene 1 shuts 0;scene 1 needs 0;"
                + "scene 1 opens 1 shuts 1;scene 1 tells 2 needs 2;scene 1 with 4 dies 5;scene 1 with 5;scene 1 dies 4;");
        due("may(0, 0)", x.may(0, 0), 1);
        due("may(0, 1)", x.may(0, 1), 0);
        for (int k = 1; k <= 3; k++) {
            due("may(" + k + ", 0)", x.may(k, 0), 0);
            due("may(" + k + ", 1)", x.may(k, 1), 1);
        }
        due("may(4, 0): it opens what it shuts", x.may(4, 0), 1);
        due("may(5, 0): it needs what only it tells", x.may(5, 0), 0);
        due("may(7, 0)", x.may(7, 0), 1);
        due("may(7, 64): the dead", x.may(7, 64), 0);
        due("may(6, 256): with the dead", x.may(6, 256), 0);
        due("may(8, 64): who was with the dead dies", x.may(8, 64), 1);
        due("may(6, 128)", x.may(6, 128), 1);
        due("may(6, 511 - 64 - 256)", x.may(6, 511 - 64 - 256), 1);
        due("may(9, 0)", x.may(9, 0), UNKNOWN);
        due("may(0, 512)", x.may(0, 512), UNKNOWN);
        due("may(0, MIN)", x.may(0, Integer.MIN_VALUE), UNKNOWN);
        for (int w : WRONG) {
            due("may(" + w + ", 0)", x.may(w, 0), UNKNOWN);
        }
    }

    private static void promise9Next() {
        StoryNumbers x = told(STORY);
        due("next(0)", x.next(0), 17);
        due("next(16)", x.next(16), 0);
        due("next(2)", x.next(2), 17);
        due("next(31)", x.next(31), 0);
        due("next(32)", x.next(32), UNKNOWN);
        due("next(-1)", x.next(-1), UNKNOWN);
        due("next(MIN)", x.next(Integer.MIN_VALUE), UNKNOWN);
    }

    private static void promise10Orders() {
        StoryNumbers x = told(TEN);
        due("orders(1023)", x.orders(1023), 3628800);
        due("orders(0)", x.orders(0), 1);
        due("orders(513)", x.orders(513), 2);
        due("orders(1024)", x.orders(1024), UNKNOWN);
        due("orders(-1)", x.orders(-1), UNKNOWN);
        x = told("scene 1 tells 0;scene 1 tells 1;scene 1 after 0;");
        due("orders(7)", x.orders(7), 3);
        due("orders(4)", x.orders(4), 0);
        x.never(0, 1, true);
        due("orders(7)", x.orders(7), 0);
        due("orders(5)", x.orders(5), 1);
        x.never(0, 1, false);
        due("orders(7)", x.orders(7), 3);
        tell(x, "scene 1;scene 1;scene 1 after 1;");
        due("orders(7)", x.orders(7), 3);
        due("orders(6)", x.orders(6), 1);
    }

    private static void promise11Order() {
        StoryNumbers x = told("scene 1;scene 1;scene 1 after 0;");
        int[][] orders = {{0, 1, 2}, {0, 2, 1}, {1, 0, 2}};
        for (int i = 0; i < 3; i++) {
            for (int j = 0; j < 3; j++) {
                due("order(7, " + i + ", " + j + ")", x.order(7, i, j), orders[i][j]);
            }
        }
        due("order(7, 3, 0)", x.order(7, 3, 0), NONE);
        due("order(7, MAX, 0)", x.order(7, Long.MAX_VALUE, 0), NONE);
        due("order(7, 2^32, 0)", x.order(7, 1L << 32, 0), NONE);
        due("order(7, 0, 3)", x.order(7, 0, 3), NONE);
        due("order(7, 0, -1)", x.order(7, 0, -1), NONE);
        due("order(4, 0, 0)", x.order(4, 0, 0), NONE);
        due("order(0, 0, 0)", x.order(0, 0, 0), NONE);
        due("order(5, 0, 1)", x.order(5, 0, 1), 2);
        due("order(7, -1, 0)", x.order(7, -1, 0), OUTSIDE);
        due("order(7, MIN, 9)", x.order(7, Long.MIN_VALUE, 9), OUTSIDE);
        due("order(8, -1, 0)", x.order(8, -1, 0), UNKNOWN);
        due("order(-1, 0, 0)", x.order(-1, 0, 0), UNKNOWN);
    }

    private static void promise12Good() {
        due("good()", told(TEN).good(), 1024);
        due("good()", told("scene 1;scene 1 after 0;scene 1 after 1;").good(), 4);
        StoryNumbers x = told("scene 1 needs 0;scene 1 shuts 0;");
        due("good()", x.good(), 1);
        tell(x, "scene 1;");
        due("good()", x.good(), 2);
    }

    private static void promise13Place() {
        StoryNumbers x = told("scene 1;scene 1;scene 1 after 0;");
        int[][] places = {{0, 1}, {0, 2}, {1, 2}};
        for (int k = 0; k < 3; k++) {
            due("place(" + k + ", 0)", x.place(k, 0), places[k][0]);
            due("place(" + k + ", 1)", x.place(k, 1), places[k][1]);
        }
        due("place(0, 2)", x.place(0, 2), OUTSIDE);
        due("place(0, -1)", x.place(0, -1), OUTSIDE);
        due("place(3, 2)", x.place(3, 2), UNKNOWN);
        due("place(-1, 0)", x.place(-1, 0), UNKNOWN);
        x = told("scene 1;scene 1 needs 0;");
        due("place(0, 0)", x.place(0, 0), NONE);
        due("place(0, 1)", x.place(0, 1), NONE);
        // behind the death nobody may come who was with the dead: 0 is never last
        x = told("scene 1 with 3;scene 1 dies 3;");
        due("place(0, 1)", x.place(0, 1), 0);
        due("place(1, 0)", x.place(1, 0), 1);
    }

    private static void promise14Open() {
        StoryNumbers x = told("scene 1 opens 0,1;scene 1 shuts 0;scene 1 opens 2 shuts 2,5;");
        due("open(0)", x.open(0), 0);
        due("open(1)", x.open(1), 3);
        due("open(2)", x.open(2), 0);
        due("open(3)", x.open(3), 2);
        due("open(4)", x.open(4), 0);
        due("open(7)", x.open(7), 2);
        due("open(8)", x.open(8), UNKNOWN);
        due("open(-8)", x.open(-8), UNKNOWN);
    }

    private static void promise15AtOnce() {
        StoryNumbers x = told("scene 1 opens 0,1;scene 1 opens 2,3;scene 1 shuts 0,1;scene 1 shuts 2,3;");
        due("atOnce(15)", x.atOnce(15), 2);
        due("atOnce(3)", x.atOnce(3), 4);
        due("atOnce(1)", x.atOnce(1), 2);
        due("atOnce(0)", x.atOnce(0), 0);
        due("atOnce(4)", x.atOnce(4), NONE);
        due("atOnce(16)", x.atOnce(16), UNKNOWN);
        due("atOnce(-1)", x.atOnce(-1), UNKNOWN);
        x = told("scene 1 opens 0,1,2 shuts 0,1,2;scene 1 opens 3;scene 1 after 1 opens 4 shuts 3;");
        due("atOnce(7)", x.atOnce(7), 1);
    }

    private static void promise16Along() {
        StoryNumbers x = told("scene 1;scene 1 after 0;scene 1 opens 0;scene 1 after 1 shuts 0;scene 1 needs 7;");
        due("along(0)", x.along(0), 1 + 2 + 8 + 16);
        due("along(1)", x.along(1), 2 + 8 + 16);
        due("along(2)", x.along(2), 4 + 8 + 16);
        due("along(3)", x.along(3), 8 + 16);
        due("along(4)", x.along(4), 16);
        due("along(5)", x.along(5), UNKNOWN);
        for (int w : WRONG) {
            due("along(" + w + ")", x.along(w), UNKNOWN);
        }
        x = told("scene 1 tells 0;scene 1 tells 0;scene 1 needs 0;");
        due("along(0): another tells it, too", x.along(0), 1);
    }

    private static void promise17Shortest() {
        StoryNumbers x = told("scene 9 tells 0;scene 4 tells 0;scene 5 needs 0;scene 4 tells 0;scene 1 needs 1;");
        due("shortest(2, 0): the least of like ones", x.shortest(2, 0), 6);
        due("shortest(2, 1)", x.shortest(2, 1), 9);
        due("shortest(0, 0)", x.shortest(0, 0), 1);
        due("shortest(0, 1)", x.shortest(0, 1), 9);
        due("shortest(4, 0)", x.shortest(4, 0), NONE);
        due("shortest(4, 1)", x.shortest(4, 1), NONE);
        due("shortest(4, 2)", x.shortest(4, 2), OUTSIDE);
        due("shortest(0, -1)", x.shortest(0, -1), OUTSIDE);
        due("shortest(5, -1)", x.shortest(5, -1), UNKNOWN);
        due("shortest(-1, 0)", x.shortest(-1, 0), UNKNOWN);
    }

    private static void promise18Law() {
        int[] lowest = {1, 1, 1, 0, 0, 0, 0, 0};
        int[] highest = {60, 200, 9, 20, 20, 20, 20, 99};
        int[] first = {1, 60, 2, 3, 4, 2, 1, 8};
        for (int what = 0; what < 8; what++) {
            StoryNumbers x = new StoryNumbers();
            due("law(" + what + ") below", x.law(what, lowest[what] - 1), OUTSIDE);
            due("law(" + what + ") above", x.law(what, highest[what] + 1), OUTSIDE);
            due("law(" + what + ") least", x.law(what, lowest[what]), first[what]);
            due("law(" + what + ") most", x.law(what, highest[what]), lowest[what]);
            due("law(" + what + ") again", x.law(what, highest[what]), highest[what]);
        }
        StoryNumbers x = new StoryNumbers();
        due("law(1, 100)", x.law(1, 100), 60);
        due("law(0, 100)", x.law(0, 100), OUTSIDE);
        due("law(0, 99)", x.law(0, 99), 1);
        due("law(1, 98)", x.law(1, 98), OUTSIDE);
        due("law(1, 99)", x.law(1, 99), 100);
        due("law(8, 1)", x.law(8, 1), OUTSIDE);
        for (int w : WRONG) {
            due("law(" + w + ", 1)", x.law(w, 1), OUTSIDE);
        }
    }

    private static void promise19Add() {
        StoryNumbers x = told("scene 1 with 1;scene 1;scene 1;scene 1;scene 1;scene 1;scene 1;scene 1 after 0;scene 1 dies 1;");
        due("add(7)", x.add(7), NOT);
        for (int k = 0; k < 6; k++) {
            due("add(" + k + ")", x.add(k), k + 1);
        }
        due("add(6) as the seventh", x.add(6), FULL);
        due("add(0) again: NOT is ahead of FULL", x.add(0), NOT);
        due("add(9)", x.add(9), UNKNOWN);
        for (int w : WRONG) {
            due("add(" + w + ")", x.add(w), UNKNOWN);
        }
        due("count(3)", x.count(3), 6);
        x.print();
        due("add(0) that is printed", x.add(0), NOT);
        due("add(7) behind what is printed", x.add(7), 1);
        due("add(8)", x.add(8), 2);
        x = told("scene 1 with 1;scene 1 dies 1;");
        x.add(1);
        x.print();
        due("add(0) with the dead", x.add(0), NOT);
    }

    private static void promise20Drop() {
        StoryNumbers x = told("scene 1;scene 1 after 0;scene 1;");
        x.add(0);
        x.add(1);
        due("drop()", x.drop(), 1);
        due("count(3)", x.count(3), 1);
        due("add(1)", x.add(1), 2);
        x.print();
        due("drop() of what is printed", x.drop(), NONE);
        due("count(1)", x.count(1), 2);
        x.add(2);
        due("drop()", x.drop(), 2);
        due("drop()", x.drop(), NONE);
    }

    private static void promise21Lines() {
        StoryNumbers x = told("scene 5 with 0;scene 6 dies 1;scene 7 with 2;scene 8 with 0,2;scene 9 with 3;");
        due("lines()", x.lines(), 0);
        x.add(0);
        x.add(1);
        due("lines()", x.lines(), 11);
        x.print();
        due("lines() of an empty draft", x.lines(), 0);
        number(x, 2);
        x.add(3);
        due("lines(): nobody was long away", x.lines(), 8);
        x.law(2, 1);
        due("lines(): 0 is reminded of", x.lines(), 11);
        x.law(3, 20);
        due("lines() with REMIND 20", x.lines(), 28);
        x.law(3, 0);
        due("lines() with REMIND 0", x.lines(), 8);
        x.drop();
        x.law(3, 20);
        x.add(4);
        due("lines(): 3 was in no NUMBER", x.lines(), 9);
    }

    private static void promise22Print() {
        StoryNumbers x = told("scene 30 with 0;scene 31;scene 29 with 0;scene 9;scene 10;");
        due("print() of nothing", x.print(), NOT);
        x.law(0, 10);
        x.add(3);
        due("print() below LEAST", x.print(), NOT);
        due("count(3)", x.count(3), 1);
        x.drop();
        x.add(4);
        due("print() at LEAST", x.print(), 0);
        x.add(0);
        x.add(1);
        due("print() above MOST", x.print(), NOT);
        x.drop();
        due("print()", x.print(), 1);
        due("count(3)", x.count(3), 0);
        due("print() of nothing", x.print(), NOT);
        x.law(2, 1);
        x.add(1);
        due("print()", x.print(), 2);
        x.law(1, 31);
        x.add(2);
        due("print() above MOST by a reminder", x.print(), NOT);
        x.law(1, 32);
        due("print() at MOST with a reminder", x.print(), 3);
        x = told(TEN);
        for (int k = 0; k < 10; k++) {
            x.add(k);
            due("print() of " + k, x.print(), k);
        }
        due("count(2)", x.count(2), 10);
    }

    private static void promise23Number() {
        StoryNumbers x = told("scene 1 joy 1 with 0 opens 0;scene 2 joy 2 opens 1;scene 3 joy 3 with 1;scene 4 shuts 1;"
                + "scene 5 opens 2;scene 6 with 0 opens 3;scene 7 shuts 3;");
        number(x, 0, 1);
        number(x, 2);
        number(x, 3);
        number(x, 4);
        x.law(2, 4);
        number(x, 5, 6);
        int[][] numbers = {
            {2, 3, 3 + 4 + 4, 1000 * 103 / 100, 3, 0, 0, 1, NONE, NONE, NONE, NONE},
            {1, 3, 3 + 4, 1030 * 99 / 100, 3, 0, 2, NONE, NONE, NONE, NONE, NONE},
            {1, 4, 2, 1019 * 94 / 100, 1, 0, 3, NONE, NONE, NONE, NONE, NONE},
            {1, 5, 4 + 4, 957 * 100 / 100, 5, 0, 4, NONE, NONE, NONE, NONE, NONE},
            {2, 13, 4 - 1, 957 * 95 / 100, 5, 0, 5, 6, NONE, NONE, NONE, NONE}};
        for (int n = 0; n < numbers.length; n++) {
            for (int what = 0; what < 12; what++) {
                due("number(" + n + ", " + what + ")", x.number(n, what), numbers[n][what]);
            }
        }
        x.law(2, 3);
        due("number(4, 5)", x.number(4, 5), 1);
        due("number(4, 1)", x.number(4, 1), 16);
        x.law(6, 20);
        due("number(4, 2) with TIRED 20", x.number(4, 2), 4 - 20);
        due("number(3, 2) with TIRED 20", x.number(3, 2), 8);
        x.law(5, 0);
        x.law(4, 20);
        due("number(4, 2) with WONDER 0", x.number(4, 2), -20);
        due("number(0, 2) with HOOK 20", x.number(0, 2), 23);
        due("number(5, 12)", x.number(5, 12), UNKNOWN);
        due("number(0, 12)", x.number(0, 12), OUTSIDE);
        due("number(0, -1)", x.number(0, -1), OUTSIDE);
        x.law(7, 99);
        due("number(4, 3) is 0 at least", x.number(4, 3), 0);
        for (int w : WRONG) {
            due("number(" + w + ", 0)", x.number(w, 0), UNKNOWN);
        }
    }

    private static void promise24Readers() {
        StoryNumbers x = told("scene 1 joy 9 opens 0,1,2,3,4,5,6,7;scene 1;scene 1;scene 1;scene 1;scene 1;scene 1;scene 1;scene 1;scene 1;");
        due("readers()", x.readers(), 1000);
        x.add(0);
        due("readers() with a DRAFT", x.readers(), 1000);
        x.print();
        due("readers()", x.readers(), 1000 * (100 - 8 + 9 + 16 + 4) / 100);
        x.law(4, 20);
        x.law(5, 20);
        x.law(6, 0);
        x.law(7, 0);
        long readers = 1000 * (100 + 9 + 160 + 20) / 100;
        due("readers() under other LAWS", x.readers(), readers);
        for (int k = 1; k < 10; k++) {
            number(x, k);
            readers = readers * 260 / 100;
            due("readers()", x.readers(), readers);
        }
        x.law(5, 0);
        x.law(6, 20);
        due("readers() that are all tired", x.readers(), 0);
    }

    private static void promise25Plan() {
        StoryNumbers x = told(STORY);
        x.law(0, 10);
        x.law(1, 25);
        int[] parts = {3, 20, 8};
        for (int i = 0; i < 3; i++) {
            due("plan(3, 31, " + i + ")", x.plan(3, 31, i), parts[i]);
        }
        due("plan(3, 31, NONE)", x.plan(3, 31, NONE), 30);
        due("plan(3, 31, 3)", x.plan(3, 31, 3), NONE);
        due("plan(3, 31, -2)", x.plan(3, 31, -2), NONE);
        due("plan(3, 31, MAX)", x.plan(3, 31, Integer.MAX_VALUE), NONE);
        due("plan(1, 0, NONE)", x.plan(1, 0, NONE), NONE);
        due("plan(12, 31, NONE)", x.plan(12, 31, NONE), NONE);
        due("plan(0, 31, NONE)", x.plan(0, 31, NONE), OUTSIDE);
        due("plan(13, 31, NONE)", x.plan(13, 31, NONE), OUTSIDE);
        due("plan(13, 32, NONE)", x.plan(13, 32, NONE), UNKNOWN);
        due("plan(1, -1, NONE)", x.plan(1, -1, NONE), UNKNOWN);
        x.add(0);
        due("plan(3, 31, 0) with a DRAFT", x.plan(3, 31, 0), 3);
        x.print();
        due("plan(3, 31, 0) with what is printed", x.plan(3, 31, 0), UNKNOWN);
        due("plan(1, 2, NONE)", x.plan(1, 2, NONE), 8);
        x.law(4, 0);
        due("plan(1, 2, NONE) with HOOK 0", x.plan(1, 2, NONE), 4);
        x.law(5, 20);
        due("plan(1, 2, NONE) with WONDER 20", x.plan(1, 2, NONE), 40);
        // like ones: the least first part; a part has six SCENES at most
        x = told("scene 1;scene 1;scene 1;scene 1;scene 1;scene 1;scene 1;");
        due("plan(1, 127, NONE)", x.plan(1, 127, NONE), NONE);
        due("plan(1, 63, NONE)", x.plan(1, 63, NONE), 0);
        due("plan(2, 127, 0)", x.plan(2, 127, 0), 1);
        due("plan(2, 127, 1)", x.plan(2, 127, 1), 126);
        due("plan(7, 127, 6)", x.plan(7, 127, 6), 64);
        // one ORDER that ends with a hook is enough, and NEVER is looked at anew
        x = told("scene 1 opens 0 tells 0;scene 1 tells 1;");
        due("plan(1, 3, NONE)", x.plan(1, 3, NONE), 6);
        x.never(0, 1, true);
        due("plan(1, 3, NONE) with NEVER", x.plan(1, 3, NONE), NONE);
        x = told(TEN);
        for (int n = 2; n <= 10; n++) {
            due("plan(" + n + ", 1023, 0)", x.plan(n, 1023, 0), n == 2 ? 15 : 1);
            due("plan(" + n + ", 1023, NONE)", x.plan(n, 1023, NONE), 0);
        }
        due("plan(10, 1023, 9)", x.plan(10, 1023, 9), 512);
        due("plan(11, 1023, NONE)", x.plan(11, 1023, NONE), NONE);
        due("plan(11, 1023, 0)", x.plan(11, 1023, 0), NONE);
        plansAreMadeAnew();
    }

    /** The same question behind each call that can change its answer. */
    private static void plansAreMadeAnew() {
        StoryNumbers x = told("scene 5 opens 0;scene 6 joy 5 after 0;scene 7 joy 7 with 1 after 0;scene 8 dies 1;");
        x.keep(0);
        due("plan(1, 2, NONE)", x.plan(1, 2, NONE), NONE);
        due("kind(1, 2, 1)", x.kind(1, 2, 1), 5 + 7 + 2);
        number(x, 0);
        due("plan(1, 2, NONE) behind print()", x.plan(1, 2, NONE), 5 + 2);
        x.law(5, 3);
        due("plan(1, 2, NONE) behind law()", x.plan(1, 2, NONE), 5 + 3);
        due("kind(1, 2, 0)", x.kind(1, 2, 0), 6);
        x.keep(1);
        number(x, 3);
        due("kind(1, 2, 0) behind print()", x.kind(1, 2, 0), 2);
        x.goBack(1);
        due("kind(1, 2, 0) behind goBack(1)", x.kind(1, 2, 0), 6);
        x.goBack(0);
        due("plan(1, 2, NONE) behind goBack(0)", x.plan(1, 2, NONE), NONE);
        tell(x, "scene 1;scene 2 joy 9;");
        due("plan(1, 2, NONE) behind story()", x.plan(1, 2, NONE), 9);
    }

    private static void promise26Kind() {
        StoryNumbers x = told("scene 5 joy 1 dies 0;scene 5 joy 2;scene 5 joy 2;scene 5 dies 1;scene 5 after 0;");
        due("kind(1, 0, 0)", x.kind(1, 0, 0), 31);
        due("kind(1, 0, 1)", x.kind(1, 0, 1), 5);
        due("kind(1, 1, 0)", x.kind(1, 1, 0), 14);
        due("kind(1, 2, 0)", x.kind(1, 2, 0), 23);
        due("kind(1, 255, 0)", x.kind(1, 255, 0), 6);
        due("kind(4, 3, 0)", x.kind(4, 3, 0), NONE);
        due("kind(4, 3, 1)", x.kind(4, 3, 1), NONE);
        due("kind(12, 0, 0)", x.kind(12, 0, 0), NONE);
        StoryNumbers ten = told(TEN);
        due("kind(10, 255, 0) of ten", ten.kind(10, 255, 0), 1023);
        due("kind(10, 255, 1) of ten", ten.kind(10, 255, 1), 0);
        due("kind(11, 255, 1) of ten", ten.kind(11, 255, 1), NONE);
        x.law(1, 5);
        due("kind(1, 0, 0): the greatest WORTH, the least SET", x.kind(1, 0, 0), 2);
        due("kind(1, 0, 1)", x.kind(1, 0, 1), 2);
        x.add(1);
        due("kind(1, 0, 0) with a DRAFT", x.kind(1, 0, 0), 2);
        x.print();
        due("kind(1, 0, 0) with what is printed", x.kind(1, 0, 0), 4);
        due("kind(1, 256, 0)", x.kind(1, 256, 0), UNKNOWN);
        due("kind(0, 256, 5)", x.kind(0, 256, 5), UNKNOWN);
        due("kind(1, -1, 0)", x.kind(1, -1, 0), UNKNOWN);
        due("kind(0, 0, 0)", x.kind(0, 0, 0), OUTSIDE);
        due("kind(13, 0, 0)", x.kind(13, 0, 0), OUTSIDE);
        due("kind(1, 0, 2)", x.kind(1, 0, 2), OUTSIDE);
        due("kind(1, 0, -1)", x.kind(1, 0, -1), OUTSIDE);
    }

    private static void promise27Chapter() {
        StoryNumbers x = told("scene 10 with 0;scene 20;scene 30;scene 10 with 0;scene 5;scene 5;");
        number(x, 0, 1);
        due("chapter(3, 0)", x.chapter(3, 0), NOT);
        due("chapter(3, 9)", x.chapter(3, 9), NOT);
        due("chapter(9, 9)", x.chapter(9, 9), OUTSIDE);
        due("chapter(0, 0)", x.chapter(0, 0), OUTSIDE);
        due("chapter(2, 2)", x.chapter(2, 2), UNKNOWN);
        due("chapter(2, -2)", x.chapter(2, -2), UNKNOWN);
        due("chapter(2, NONE)", x.chapter(2, NONE), 500);
        number(x, 2);
        x.law(2, 1);
        number(x, 3);
        number(x, 4, 5);
        due("chapter(1, NONE)", x.chapter(1, NONE), 6400);
        due("chapter(1, 0)", x.chapter(1, 0), 6);
        due("chapter(2, NONE)", x.chapter(2, NONE), 30 * 30 + 50 * 50);
        due("chapter(3, NONE)", x.chapter(3, NONE), 30 * 30 + 30 * 30 + 20 * 20);
        int[] three = {2, 1, 3};
        for (int i = 0; i < 3; i++) {
            due("chapter(3, " + i + ")", x.chapter(3, i), three[i]);
        }
        due("chapter(6, NONE)", x.chapter(6, NONE), 100 + 400 + 900 + 100 + 25 + 25);
        due("chapter(7, NONE)", x.chapter(7, NONE), NOT);
        x = told("scene 5;scene 5;scene 5;");
        number(x, 0, 1, 2);
        due("chapter(2, 0): the fewest first", x.chapter(2, 0), 1);
        due("chapter(2, 1)", x.chapter(2, 1), 2);
        x = told(TEN);
        x.add(0);
        due("chapter(1, NONE) of a DRAFT", x.chapter(1, NONE), NOT);
        x.print();
        for (int k = 1; k < 10; k++) {
            number(x, k);
        }
        int[] eight = {3, 1, 1, 1, 1, 1, 1, 1};
        for (int i = 0; i < 8; i++) {
            due("chapter(8, " + i + ")", x.chapter(8, i), eight[i]);
        }
        due("chapter(8, NONE)", x.chapter(8, NONE), 36 + 16 + 25 + 36 + 49 + 64 + 81 + 100);
    }

    private static void promises28And29KeepAndGoBack() {
        StoryNumbers x = told(STORY);
        due("goBack(0)", x.goBack(0), NOT);
        number(x, 0);
        x.add(1);
        x.law(3, 7);
        due("keep(0)", x.keep(0), 1);
        x.print();
        x.add(2);
        x.law(3, 8);
        x.never(0, 1, true);
        due("keep(1)", x.keep(1), 1);
        x.drop();
        due("goBack(0)", x.goBack(0), 1);
        due("count(2)", x.count(2), 1);
        due("count(1)", x.count(1), 1);
        due("count(3)", x.count(3), 1);
        due("count(6): NEVER stays", x.count(6), 1);
        due("drop()", x.drop(), 1);
        due("law(3)", x.law(3, 3), 7);
        due("plan(1, 3, NONE)", x.plan(1, 3, NONE), UNKNOWN);
        due("plan(1, 2, NONE)", x.plan(1, 2, NONE), 8);
        due("goBack(1)", x.goBack(1), 1);
        due("count(2)", x.count(2), 2);
        due("count(3)", x.count(3), 1);
        due("law(3)", x.law(3, 3), 8);
        due("drop()", x.drop(), 2);
        due("goBack(1) once more", x.goBack(1), 1);
        due("drop()", x.drop(), 2);
        due("plan(1, 2, NONE)", x.plan(1, 2, NONE), UNKNOWN);
        for (int w : WRONG) {
            due("keep(" + w + ")", x.keep(w), UNKNOWN);
            due("goBack(" + w + ")", x.goBack(w), UNKNOWN);
        }
        due("keep(2)", x.keep(2), UNKNOWN);
        due("goBack(2)", x.goBack(2), UNKNOWN);
        tell(x, "scene 0;");
        due("goBack(0) behind a FAULT", x.goBack(0), 1);
        tell(x, STORY);
        due("goBack(0) behind the same text", x.goBack(0), NOT);
        due("goBack(1) behind the same text", x.goBack(1), NOT);
        due("keep(1)", x.keep(1), 1);
        due("goBack(1)", x.goBack(1), 1);
    }

    public static void main(String[] args) {
        theFace();
        promise1NewObject();
        promise2Feed();
        promise3Story();
        promise4Fault();
        promise5Scene();
        promise6Never();
        promise7Count();
        promise8May();
        promise9Next();
        promise10Orders();
        promise11Order();
        promise12Good();
        promise13Place();
        promise14Open();
        promise15AtOnce();
        promise16Along();
        promise17Shortest();
        promise18Law();
        promise19Add();
        promise20Drop();
        promise21Lines();
        promise22Print();
        promise23Number();
        promise24Readers();
        promise25Plan();
        promise26Kind();
        promise27Chapter();
        promises28And29KeepAndGoBack();
        end("promises");
    }
}
