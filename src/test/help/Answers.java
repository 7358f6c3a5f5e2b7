/** What the tests have in common: answers held against those due, stories told, NUMBERS printed. */
abstract class Answers {
    static final int NONE = -1, UNKNOWN = -1001, OUTSIDE = -1002, NOT = -1003, FULL = -1004;
    /** Numbers that are no SCENE, NUMBER, FACT or STATE, nor a 'what', of any story. */
    static final int[] WRONG = {Integer.MIN_VALUE, -1003, -1, 12, 31, 32, 1000, Integer.MAX_VALUE};
    static final String TEN = "scene1;scene2;scene3;scene4;scene5;scene6;scene7;scene8;scene9;scene10;";

    private static String sentence = "";
    private static int wrong = 0;
    private static int held = 0;

    /** The sentence of the document that the answers below are about. */
    static void says(String words) {
        sentence = words;
    }

    static void due(String call, long got, long want) {
        held++;
        if (got != want) {
            wrong++;
            System.out.println((sentence.isEmpty() ? "" : "[" + sentence + "] ")
                    + call + " answered " + got + ", due is " + want);
        }
    }

    static void feed(StoryNumbers x, String text) {
        for (int from = 0; from < text.length(); from += 8) {
            int n = Math.min(8, text.length() - from);
            long bytes = 0;
            for (int i = 0; i < n; i++) {
                bytes = bytes << 8 | text.charAt(from + i);
            }
            x.feed(n, bytes);
        }
    }

    static int tell(StoryNumbers x, String text) {
        feed(x, text);
        return x.story();
    }

    static StoryNumbers told(String text) {
        StoryNumbers x = new StoryNumbers();
        int scenes = tell(x, text);
        if (scenes < 0) {
            due("story() of " + text, scenes, 0);
        }
        return x;
    }

    /** Prints a NUMBER of these SCENES. */
    static void number(StoryNumbers x, int... scenes) {
        for (int k : scenes) {
            int added = x.add(k);
            if (added < 0) {
                due("add(" + k + ")", added, 1);
            }
        }
        int printed = x.print();
        if (printed < 0) {
            due("print()", printed, 0);
        }
    }

    /** Prints the SCENES from 0 up to count, each as a NUMBER of its own. */
    static void numberEach(StoryNumbers x, int count) {
        for (int k = 0; k < count; k++) {
            number(x, k);
        }
    }

    /** The text has the FAULT at the byte, and leaves THE STORY as it was. */
    static void faulty(String text, int fault, int at) {
        StoryNumbers x = told("scene 7;scene 8;");
        due("story() of '" + text + "'", tell(x, text), -10 - fault);
        due("fault() of '" + text + "'", x.fault(), at);
        due("count(0) behind '" + text + "'", x.count(0), 2);
        due("count(4) behind '" + text + "'", x.count(4), 15);
        due("count(5) behind '" + text + "'", x.count(5), 0);
    }

    static void sound(String text, int scenes) {
        StoryNumbers x = new StoryNumbers();
        due("story() of '" + text + "'", tell(x, text), scenes);
        due("fault() of '" + text + "'", x.fault(), NONE);
        due("count(0) of '" + text + "'", x.count(0), scenes);
    }

    /** So many clauses of one line each. */
    static String clauses(int count) {
        return "scene 1;".repeat(count);
    }

    static void end(String test) {
        System.out.println(test + ": " + held + " answers held against those due, " + wrong + " wrong");
        if (wrong != 0) {
            System.exit(1);
        }
    }
}
