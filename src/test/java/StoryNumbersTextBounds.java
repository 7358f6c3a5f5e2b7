/** The bounds that "1 THE STORY" and the promises 1 to 7 name, each sentence just inside and just outside. */
public final class StoryNumbersTextBounds extends Answers {
    private static final String[] WORDS = {"scene", "joy", "with", "after", "opens", "shuts", "tells", "needs", "dies"};
    private static final int WITH = 2, AFTER = 3, OPENS = 4, SHUTS = 5, NEEDS = 7, DIES = 8;
    /** A clause with every word, ahead of which a SCENE stands. */
    private static final String[] TOKENS = {"scene", "12", "joy", "3", "with", "4", ",", "5", "after", "0", "opens", "6",
        ",", "7", "shuts", "6", "tells", "1", "needs", "2", ",", "3", "dies", "0", ";"};
    private static final int[] CELLS = {12, 3, 49, 1, 192, 64, 2, 12, 0, NONE};

    private static void bytesOfTheText() {
        says("400 bytes at most");
        String most = "scene 1" + " ".repeat(392) + ";";
        StoryNumbers x = new StoryNumbers();
        feed(x, most);
        due("count(5)", x.count(5), 400);
        due("feed(1) at 400", x.feed(1, ' '), FULL);
        due("count(5) behind FULL", x.count(5), 400);
        due("story() of 400 bytes", x.story(), 1);
        due("count(5) behind story()", x.count(5), 0);
        faulty("scene 1" + " ".repeat(393), 1, 400);
        faulty("scene 1" + " ".repeat(392) + "x", 1, 399);
        for (int n = 1; n <= 8; n++) {
            x = new StoryNumbers();
            feed(x, " ".repeat(400 - n));
            for (int more = n + 1; more <= 8; more++) {
                due("feed(" + more + ") at " + (400 - n), x.feed(more, 0), FULL);
                due("count(5)", x.count(5), 400 - n);
            }
            due("feed(" + n + ") at " + (400 - n), x.feed(n, 0), 400);
        }
    }

    private static void bytesOfAFeed() {
        says("Up to eight bytes (n 1 .. 8) of a long");
        StoryNumbers x = new StoryNumbers();
        due("feed(0)", x.feed(0, ' '), OUTSIDE);
        due("feed(9)", x.feed(9, ' '), OUTSIDE);
        for (int w : WRONG) {
            due("feed(" + w + ")", x.feed(w, ' '), OUTSIDE);
        }
        due("count(5)", x.count(5), 0);
        due("feed(1)", x.feed(1, ' '), 1);
        due("feed(8)", x.feed(8, 0x2020202020202020L), 9);
        says("the highest of these first");
        long scene = 0x7363656e6531303bL;
        String text = "scene10;";
        for (int n = 1; n <= 8; n++) {
            x = new StoryNumbers();
            feed(x, text.substring(0, 8 - n));
            // what stands above the n bytes does not count
            long above = n == 8 ? 0 : -1L << (8 * n);
            due("feed(" + n + ")", x.feed(n, scene & ~above | above), 8);
            due("story()", x.story(), 1);
            due("scene(0, 0)", x.scene(0, 0), 10);
        }
    }

    private static void countOfScenes() {
        says("Each clause is a SCENE (10 at most)");
        for (int n = 0; n <= 10; n++) {
            sound(clauses(n), n);
            StoryNumbers x = told(clauses(n));
            due("scene(n - 1, 0) of " + n, x.scene(n - 1, 0), n == 0 ? UNKNOWN : 1);
            due("scene(n, 0) of " + n, x.scene(n, 0), UNKNOWN);
        }
        says("an eleventh SCENE (at its first letter)");
        faulty(clauses(11), 5, 80);
        faulty(clauses(12), 5, 80);
        faulty(clauses(10) + "  scene 0;", 5, 82);
        faulty(clauses(10) + "scene", 5, 80);
        faulty(clauses(10) + "scen", 1, 80);
        faulty(clauses(10) + "scenes", 1, 80);
        faulty(clauses(10) + ";", 1, 80);
        faulty(clauses(10) + "joy 1;", 1, 80);
        faulty(clauses(9) + "scene 0;scene 1;", 2, 78);
        sound(clauses(10) + "   ", 10);
    }

    private static void cellIs(String text, int k, int what, int value) {
        due("scene(" + k + ", " + what + ") of '" + text + "'", told(text).scene(k, what), value);
    }

    private static void linesAndJoy() {
        says("L lines (1 .. 99)");
        cellIs("scene 1;", 0, 0, 1);
        cellIs("scene 99;", 0, 0, 99);
        faulty("scene 0;", 2, 6);
        faulty("scene 00;", 2, 6);
        faulty("scene 100;", 2, 6);
        says("JOY J (0 .. 9; 0, if it is not told)");
        cellIs("scene 1 joy 0;", 0, 1, 0);
        cellIs("scene 1 joy 9;", 0, 1, 9);
        cellIs("scene 1 joy 9;scene 1;", 1, 1, 0);
        faulty("scene 1 joy 10;", 2, 12);
        faulty("scene 1 joy 99;", 2, 12);
    }

    private static void zeroToSeven() {
        says("PERSONS (with, dies), QUESTIONS (opens, shuts), FACTS (tells, needs) are 0 to 7");
        for (int word = WITH; word <= DIES; word++) {
            if (word == AFTER) {
                continue;
            }
            String clause = "scene 1 " + WORDS[word] + " ";
            int at = clause.length();
            cellIs(clause + "0;", 0, word, word == DIES ? 0 : 1);
            cellIs(clause + "7;", 0, word, word == DIES ? 7 : 128);
            faulty(clause + "8;", 2, at);
            faulty(clause + "9;", 2, at);
            faulty(clause + "10;", 2, at);
            if (word != DIES) {
                cellIs(clause + "7,6,5,4,3,2,1,0;", 0, word, 255);
                faulty(clause + "7,6,5,4,3,2,1,0,8;", 2, at + 16);
                faulty(clause + "7,6,5,4,3,2,1,0,7;", 3, at + 16);
            }
        }
    }

    private static void scenesInAfter() {
        says("a SCENE in 'after' that is not ahead of this one (at its first)");
        for (int k = 0; k < 10; k++) {
            String ahead = clauses(k) + "scene 1 after ";
            if (k > 0) {
                cellIs(ahead + (k - 1) + ";", k, AFTER, 1 << (k - 1));
            }
            faulty(ahead + k + ";", 4, ahead.length());
            faulty(ahead + "0" + k + ";", 4, ahead.length());
            faulty(ahead + "9;", 4, ahead.length());
            faulty(ahead + "10;", 2, ahead.length());
        }
        cellIs(clauses(9) + "scene 1 after 8,7,6,5,4,3,2,1,0;", 9, AFTER, 511);
        faulty(clauses(9) + "scene 1 after 8,9;", 4, 88);
    }

    private static void figures() {
        says("NUMBERS have one or two figures");
        for (int word = 0; word <= DIES; word++) {
            String ahead = "scene 1;scene 1;" + (word == 0 ? "" : "scene 1 ") + WORDS[word] + " ";
            int cell = word < WITH || word == DIES ? 1 : 2;
            cellIs(ahead + "1;", 2, word, cell);
            cellIs(ahead + "01;", 2, word, cell);
            faulty(ahead + "001;", 2, ahead.length());
            faulty(ahead + "0000000001;", 2, ahead.length());
            faulty(ahead + "4294967297;", 2, ahead.length());
            faulty(ahead + ";", 1, ahead.length());
            faulty(ahead, 1, ahead.length());
            faulty(ahead + "-1;", 1, ahead.length());
        }
        cellIs("scene 10;", 0, 0, 10);
        cellIs("scene 09;", 0, 0, 9);
    }

    private static boolean isLetter(int b) {
        return b >= 'a' && b <= 'z';
    }

    private static boolean isFigure(int b) {
        return b >= '0' && b <= '9';
    }

    private static void everyByte() {
        says("words are letters a .. z side by side; blanks (32) may stand");
        for (int b = 0; b < 256; b++) {
            char c = (char) b;
            String inFront = "scene" + c + "1;";
            if (b == ' ' || isFigure(b)) {
                sound(inFront, 1);
            } else {
                faulty(inFront, 1, isLetter(b) ? 0 : 5);
            }
            String behind = "scene 1" + c + ";";
            if (b == ' ' || isFigure(b)) {
                sound(behind, 1);
            } else {
                faulty(behind, 1, b == ';' ? 8 : 7);
            }
            String atTheEnd = "scene 1;" + c;
            if (b == ' ') {
                sound(atTheEnd, 1);
            } else {
                faulty(atTheEnd, 1, 8);
            }
            String inAList = "scene 1 with 1" + c + "2;";
            if (b == ',') {
                sound(inAList, 1);
            } else if (isFigure(b)) {
                faulty(inAList, 2, 13);
            } else {
                faulty(inAList, 1, b == ' ' || b == ';' ? 15 : 14);
            }
        }
        // a byte above 127 is no letter, whatever its lower bits
        faulty((char) ('s' + 128) + "cene 1;", 1, 0);
        faulty("scene " + (char) ('1' + 128) + ";", 1, 6);
        faulty("scene 1" + (char) (';' + 128), 1, 7);
    }

    private static String joined(String between) {
        return "scene 1;" + String.join(between, TOKENS);
    }

    private static void cellsAre(String text) {
        StoryNumbers x = told(text);
        due("count(0) of '" + text + "'", x.count(0), 2);
        for (int what = 0; what < 10; what++) {
            due("scene(1, " + what + ") of '" + text + "'", x.scene(1, what), CELLS[what]);
        }
    }

    private static void blanks() {
        says("blanks (32) may stand anywhere but within words and NUMBERS");
        cellsAre(joined(""));
        cellsAre(joined(" "));
        cellsAre("   " + joined("    ") + "   ");
        for (int word = 0; word <= DIES; word++) {
            String ahead = "scene 1;" + (word == 0 ? "" : "scene 1 ");
            for (int cut = 1; cut < WORDS[word].length(); cut++) {
                faulty(ahead + WORDS[word].substring(0, cut) + " " + WORDS[word].substring(cut) + " 0;", 1, ahead.length());
            }
        }
        faulty("scene 1 0;", 1, 8);
        faulty("scene 1 joy 0 9;", 1, 14);
        faulty("scene 1 with 0 7;", 1, 15);
        faulty("scene 1 dies 0 7;", 1, 15);
        says("two words side by side need one");
        faulty("scenejoy 1;", 1, 0);
        faulty("scene joy 1;", 1, 6);
        faulty("scene 1 withafter 0;", 1, 8);
        faulty("scene 1 with after 0;", 1, 13);
    }

    private static void theEnd() {
        says("the end at the text's length");
        String text = joined(" ");
        for (int cut = 9; cut < text.length(); cut++) {
            int first = cut;
            // a word that is cut off cannot stand: at its first letter
            while (isLetter(text.charAt(cut)) && isLetter(text.charAt(first - 1))) {
                first--;
            }
            faulty(text.substring(0, cut), 1, first);
        }
        sound(text.substring(0, 8), 1);
        sound("", 0);
        sound(" ", 0);
    }

    private static void wordsInTheirOrder() {
        says("a word that cannot, or that comes again or too late in its clause: at its first letter");
        for (int word = 1; word <= DIES; word++) {
            String ahead = "scene 1;scene 1 " + WORDS[word] + " 0 ";
            faulty(ahead + WORDS[word] + " 1;", 1, ahead.length());
            faulty(ahead + "scene 1;", 1, ahead.length());
            for (int late = 1; late < word; late++) {
                faulty(ahead + WORDS[late] + " 0;", 1, ahead.length());
                sound("scene 1;scene 1 " + WORDS[late] + " 0 " + WORDS[word] + " 0;", 2);
            }
            String cut = WORDS[word].substring(1);
            for (String none : new String[] {cut, "x" + cut, WORDS[word] + "x", "x" + WORDS[word], WORDS[word].toUpperCase()}) {
                faulty("scene 1;scene 1 " + none + " 0;", 1, 16);
            }
        }
        faulty("scene 1;joy 1;", 1, 8);
        faulty("scene 1 scene 1;", 1, 8);
        for (String none : new String[] {"cene", "scen", "scenes", "sscene", "Scene", "x"}) {
            faulty(none + " 1;", 1, 0);
            faulty(clauses(1) + none + " 1;", 1, 8);
        }
    }

    private static void signsOutOfPlace() {
        says("1 it cannot stand there");
        faulty(";", 1, 0);
        faulty(",", 1, 0);
        faulty("5", 1, 0);
        faulty("scene 1;;", 1, 8);
        faulty("scene ;", 1, 6);
        faulty("scene ,1;", 1, 6);
        faulty("scene 1,2;", 1, 7);
        faulty("scene 1 joy 1,2;", 1, 13);
        faulty("scene 1 dies 1,2;", 1, 14);
        for (int word = WITH; word <= NEEDS; word++) {
            String ahead = "scene 1;scene 1;scene 1 " + WORDS[word] + " ";
            faulty(ahead + ",0;", 1, ahead.length());
            faulty(ahead + "0,;", 1, ahead.length() + 2);
            faulty(ahead + "0,,1;", 1, ahead.length() + 2);
            faulty(ahead + "0 1;", 1, ahead.length() + 2);
            faulty(ahead + "0, dies 1;", 1, ahead.length() + 3);
            sound(ahead + "0 , 1;", 3);
        }
    }

    private static void firstAndLeast() {
        says("FAULTS, at the first byte that has one, of these the least");
        faulty("scene 1 with 1,1,8;", 3, 15);
        faulty("scene 1 with 1,8,1;", 2, 15);
        faulty("scene 1 after 0,10;", 4, 14);
        faulty("scene 1 joy 10 joy 1;", 2, 12);
        faulty("scene 0 joy", 2, 6);
        faulty("scene 1 opens 1;scene 1 opens 1,1;", 6, 30);
        faulty("scene 1 dies 1;scene 1 dies 1,8;", 7, 28);
        // two at one byte: 1 ahead of 2, 2 ahead of 3, 4, 6 and 7, 3 ahead of 6, 1 ahead of 5
        faulty("scene 1 100;", 1, 8);
        faulty("scene 1 with 7,007;", 2, 15);
        faulty("scene 1 after 10;", 2, 14);
        faulty("scene 1 after 000;", 2, 14);
        faulty("scene 1 opens 1;scene 1 opens 001;", 2, 30);
        faulty("scene 1 shuts 1;scene 1 shuts 001;", 2, 30);
        faulty("scene 1 dies 1;scene 1 dies 001;", 2, 28);
        faulty("scene 1 opens 3,3;", 3, 16);
        faulty("scene 1 shuts 3,3;", 3, 16);
        faulty(clauses(10) + "scenes 0;", 1, 80);
    }

    private static void againInItsList() {
        says("a NUMBER again in its list (at its first)");
        for (int word = WITH; word <= NEEDS; word++) {
            String ahead = "scene 1;scene 1;scene 1 " + WORDS[word] + " 1,0";
            faulty(ahead + ",1;", 3, ahead.length() + 1);
            faulty(ahead + ", 01;", 3, ahead.length() + 2);
            faulty(ahead + ",00;", 3, ahead.length() + 1);
            sound(ahead + ";", 3);
        }
        // in another list, or in that of another SCENE, it may come
        sound("scene 1 with 1 opens 1 shuts 1 tells 1 needs 1 dies 1;", 1);
        sound("scene 1 with 1 tells 1 needs 1;scene 1 with 1 after 0 tells 1 needs 1;scene 1 after 0;", 3);
    }

    private static void openedShutAndDeadAlready() {
        says("a QUESTION that some SCENE opens already, in 'opens'; that some SCENE shuts already, in 'shuts'");
        for (int q = 0; q < 8; q++) {
            String opens = "scene 1 opens " + q + ";scene 1 opens ";
            String shuts = "scene 1 shuts " + q + ";scene 1 shuts ";
            faulty(opens + q + ";", 6, 30);
            faulty(opens + "0" + q + ";", 6, 30);
            faulty(shuts + q + ";", 6, 30);
            faulty(shuts + (q + 1) % 8 + "," + q + ";", 6, 32);
            sound(opens + (q + 1) % 8 + ";", 2);
            sound(shuts + (q + 1) % 8 + ";", 2);
            sound("scene 1 opens " + q + ";scene 1 shuts " + q + ";", 2);
            sound("scene 1 shuts " + q + ";scene 1 opens " + q + ";", 2);
            sound("scene 1 opens " + q + " shuts " + q + ";", 1);
        }
        faulty("scene 1 opens 5;scene 1;scene 1 opens 5;", 6, 38);
        says("a PERSON that dies in a SCENE ahead (at its first)");
        for (int p = 0; p < 8; p++) {
            String dies = "scene 1 dies " + p + ";scene 1 dies ";
            faulty(dies + p + ";", 7, 28);
            faulty(dies + " 0" + p + ";", 7, 29);
            sound(dies + (p + 1) % 8 + ";", 2);
            sound("scene 1 with " + p + ";scene 1 dies " + p + ";scene 1 with " + p + ";", 3);
        }
        faulty("scene 1 dies 5;scene 1;scene 1 dies 5;", 7, 36);
        // a text with a FAULT leaves nothing behind that the next would stumble over
        StoryNumbers x = new StoryNumbers();
        due("story()", tell(x, "scene 1 opens 1 shuts 2 dies 3;scene 0;"), -12);
        due("story()", tell(x, "scene 1 opens 1 shuts 2 dies 3;"), 1);
        due("story()", tell(x, "scene 1 opens 1 shuts 2 dies 3;"), 1);
    }

    private static void whoDiesIsInIt() {
        says("A PERSON that dies in a SCENE is in it, told so or not");
        cellIs("scene 1 dies 0;", 0, 2, 1);
        cellIs("scene 1 dies 7;", 0, 2, 128);
        cellIs("scene 1 with 7 dies 7;", 0, 2, 128);
        cellIs("scene 1 with 3,4 dies 5;", 0, 2, 56);
        cellIs("scene 1 with 3,4 dies 5;", 0, 8, 5);
        cellIs("scene 1 with 3,4;", 0, 8, NONE);
        cellIs("scene 1 dies 5;scene 1;", 1, 2, 0);
        cellIs("scene 1 dies 5;scene 1;", 1, 8, NONE);
    }

    private static void aNewObject() {
        says("No STORY; LAWS as at first");
        StoryNumbers x = new StoryNumbers();
        for (int what = 0; what < 8; what++) {
            due("count(" + what + ")", x.count(what), 0);
        }
        due("scene(0, 0)", x.scene(0, 0), UNKNOWN);
        due("next(0)", x.next(0), 0);
        due("next(1)", x.next(1), UNKNOWN);
        due("good()", x.good(), 1);
        due("keep(1)", x.keep(1), 1);
        due("goBack(1)", x.goBack(1), 1);
        due("goBack(0)", x.goBack(0), NOT);
        // other objects do not see what one does
        x.law(3, 9);
        x.never(0, 1, true);
        tell(x, "scene 1;");
        due("law(3) of another", new StoryNumbers().law(3, 3), 3);
        due("count(6) of another", new StoryNumbers().count(6), 0);
        due("count(0) of another", new StoryNumbers().count(0), 0);
    }

    private static void aStoryAnew() {
        says("nothing is printed, THE DRAFT is empty, NEVER and LAWS as they are");
        StoryNumbers x = told(clauses(3));
        x.never(2, 5, true);
        x.law(0, 2);
        x.law(1, 30);
        x.add(0);
        x.add(1);
        x.print();
        x.add(2);
        for (String text : new String[] {clauses(3), "scene 9;", ""}) {
            tell(x, text);
            due("count(1)", x.count(1), 0);
            due("count(2)", x.count(2), 0);
            due("count(3)", x.count(3), 0);
            due("count(6)", x.count(6), 1);
            due("lines()", x.lines(), 0);
            due("readers()", x.readers(), 1000);
            due("law(0)", x.law(0, 2), 2);
            due("law(1)", x.law(1, 30), 30);
            due("number(0, 0)", x.number(0, 0), UNKNOWN);
            x.add(0);
        }
        says("-10 less the number of its FAULT (it is as it was)");
        x = told(clauses(3));
        number(x, 1, 0);
        x.add(2);
        for (int fault = 0; fault < 3; fault++) {
            tell(x, new String[] {"scene 1;scene 2 joy 1;scene", "scene 9;scene 9;scene 9;scene 0;", "x"}[fault]);
            due("count(1)", x.count(1), 2);
            due("count(3)", x.count(3), 1);
            due("count(4)", x.count(4), 3);
            due("number(0, 6)", x.number(0, 6), 1);
        }
        says("The byte of the FAULT of the latest story(); NONE");
        due("fault() behind x", x.fault(), 0);
        tell(x, "scene 1;;");
        due("fault() behind ;;", x.fault(), 8);
        feed(x, "scene 1;");
        due("fault() ahead of story()", x.fault(), 8);
        x.story();
        due("fault() behind it", x.fault(), NONE);
        due("fault() of a new object", new StoryNumbers().fault(), NONE);
    }

    private static void whatOfASceneAndCounts() {
        says("Of a SCENE: what = 0 .. 9. UNKNOWN, OUTSIDE");
        StoryNumbers x = told("scene 9;scene 8;");
        due("scene(-1, 0)", x.scene(-1, 0), UNKNOWN);
        due("scene(0, 0)", x.scene(0, 0), 9);
        due("scene(1, 0)", x.scene(1, 0), 8);
        due("scene(2, 0)", x.scene(2, 0), UNKNOWN);
        due("scene(0, -1)", x.scene(0, -1), OUTSIDE);
        due("scene(0, 9)", x.scene(0, 9), NONE);
        due("scene(0, 10)", x.scene(0, 10), OUTSIDE);
        says("the NUMBER in which it is printed (NONE)");
        x.add(1);
        due("scene(1, 9) in THE DRAFT", x.scene(1, 9), NONE);
        x.print();
        due("scene(1, 9) printed", x.scene(1, 9), 0);
        number(x, 0);
        due("scene(0, 9) printed", x.scene(0, 9), 1);
        x = told(clauses(10));
        number(x, 4, 9, 0);
        number(x, 8, 1);
        int[] numbers = {0, 1, NONE, NONE, 0, NONE, NONE, NONE, 1, 0};
        for (int k = 0; k < 10; k++) {
            due("scene(" + k + ", 9)", x.scene(k, 9), numbers[k]);
        }
        x = told("scene 9;scene 8;");
        says("How many: 0 .. 7. OUTSIDE");
        due("count(-1)", x.count(-1), OUTSIDE);
        due("count(0)", x.count(0), 2);
        due("count(8)", x.count(8), OUTSIDE);
        x = told("scene 99 opens 0,1,2,3,4,5,6,7;" + "scene 99;".repeat(9));
        due("count(0) at most", x.count(0), 10);
        due("count(4) at most", x.count(4), 990);
        due("count(7) at most", x.count(7), 8);
        tell(x, "scene 99 shuts 0,1,2,3,4,5,6,7;");
        due("count(7) at least", x.count(7), 0);
        tell(x, "scene 1 opens 3 shuts 3;scene 1 opens 4;");
        due("count(7) of what is shut again, too", x.count(7), 2);
        x = told(clauses(10));
        numberEach(x, 10);
        due("count(1) at most", x.count(1), 10);
        due("count(2) at most", x.count(2), 10);
    }

    private static void pairsOfNever() {
        says("NEVER are pairs of unlike FACTS (told one by one; none at first)");
        StoryNumbers x = new StoryNumbers();
        int pairs = 0;
        for (int f = 0; f < 8; f++) {
            due("never(f, f)", x.never(f, f, true), UNKNOWN);
            due("never(f, 8)", x.never(f, 8, true), UNKNOWN);
            due("never(8, f)", x.never(8, f, true), UNKNOWN);
            due("never(f, -1)", x.never(f, -1, true), UNKNOWN);
            due("never(-1, f)", x.never(-1, f, true), UNKNOWN);
            for (int g = 0; g < f; g++) {
                due("never(" + f + ", " + g + ")", x.never(f, g, true), 0);
                pairs++;
                due("count(6)", x.count(6), pairs);
                due("never(" + g + ", " + f + ") again", x.never(g, f, true), 1);
                due("count(6) again", x.count(6), pairs);
            }
        }
        due("count(6) at most", x.count(6), 28);
        due("never(7, 0, false)", x.never(7, 0, false), 1);
        due("never(0, 7, false)", x.never(0, 7, false), 0);
        due("count(6)", x.count(6), 27);
        due("never(8, 8)", x.never(8, 8, false), UNKNOWN);
    }

    public static void main(String[] args) {
        bytesOfTheText();
        bytesOfAFeed();
        countOfScenes();
        linesAndJoy();
        zeroToSeven();
        scenesInAfter();
        figures();
        everyByte();
        blanks();
        theEnd();
        wordsInTheirOrder();
        signsOutOfPlace();
        firstAndLeast();
        againInItsList();
        openedShutAndDeadAlready();
        whoDiesIsInIt();
        aNewObject();
        aStoryAnew();
        whatOfASceneAndCounts();
        pairsOfNever();
        end("bounds of the text");
    }
}
