import java.util.ArrayList;
import java.util.List;
import java.util.function.Consumer;
import java.util.function.ToLongFunction;

/** The order of the refusals; what is refused changes nothing; all calls up to the 512th. */
public final class StoryNumbersRefusals extends Answers {
    private static final String STORY = "scene 10 joy 3 with 0,1 opens 0;scene 12 with 1 after 0 opens 1 tells 2;"
            + "scene 8 with 2,0 after 0 shuts 1;scene 20 joy 9 with 0 shuts 0 needs 2 dies 1;";
    private static final int[] LAWS_ASKED = {1, 200, 9, 20, 20, 20, 20, 99};

    /** Something printed, something drafted, STATE 0 kept, a text begun. */
    private static StoryNumbers midway() {
        StoryNumbers x = told(STORY);
        x.never(0, 1, true);
        x.law(3, 7);
        number(x, 0);
        x.add(2);
        x.keep(0);
        x.drop();
        x.add(1);
        x.law(2, 1);
        feed(x, "scene 4");
        return x;
    }

    /** THE DRAFT has six SCENES, THE TEXT 398 bytes. */
    private static StoryNumbers full() {
        StoryNumbers x = told("scene 1;scene 1 after 0;scene 1;scene 1 after 1;scene 1;scene 1;scene 1;");
        for (int k : new int[] {0, 2, 1, 4, 5, 6}) {
            x.add(k);
        }
        feed(x, "scene 9" + " ".repeat(391));
        return x;
    }

    private static void askStory(StoryNumbers x, List<Long> all) {
        for (int what = 0; what < 8; what++) {
            all.add((long) x.count(what));
        }
        for (int k = 0; k < x.count(0); k++) {
            for (int what = 0; what < 10; what++) {
                all.add((long) x.scene(k, what));
            }
        }
        for (int f = 0; f < 8; f++) {
            for (int g = 0; g < f; g++) {
                int was = x.never(f, g, true);
                x.never(f, g, was == 1);
                all.add((long) was);
            }
        }
    }

    private static void askOrders(StoryNumbers x, List<Long> all) {
        for (int set = 0; set < 8; set++) {
            all.add((long) x.next(set));
            all.add(x.orders(set));
            all.add((long) x.order(set, 0, 1));
            all.add((long) x.open(set));
            all.add((long) x.atOnce(set));
        }
        all.add((long) x.good());
        all.add((long) x.along(0));
        all.add((long) x.shortest(3, 0));
        all.add((long) x.place(1, 1));
    }

    private static void askBook(StoryNumbers x, List<Long> all) {
        all.add((long) x.lines());
        all.add((long) x.readers());
        for (int n = 0; n < x.count(2); n++) {
            for (int what = 0; what < 12; what++) {
                all.add((long) x.number(n, what));
            }
        }
        for (int i = NONE; i < 2; i++) {
            all.add((long) x.plan(2, 6, i));
            all.add((long) x.plan(1, 2, i));
            all.add((long) x.chapter(1, i));
        }
        all.add((long) x.kind(2, 0, 0));
        all.add((long) x.kind(1, 2, 1));
        for (int what = 0; what < 8; what++) {
            int was = x.law(what, LAWS_ASKED[what]);
            x.law(what, was);
            all.add((long) was);
        }
    }

    private static void askDraft(StoryNumbers x, List<Long> all) {
        for (int turn = 0; turn < 7; turn++) {
            all.add((long) x.drop());
        }
    }

    /** All answers that tell what is so, then those of the STATES, and of THE TEXT at last. */
    private static List<Long> answers(StoryNumbers x) {
        List<Long> all = new ArrayList<>();
        all.add((long) x.fault());
        askStory(x, all);
        askOrders(x, all);
        askBook(x, all);
        askDraft(x, all);
        for (int i = 1; i >= 0; i--) {
            all.add((long) x.goBack(i));
            askBook(x, all);
            askDraft(x, all);
        }
        all.add((long) x.feed(1, ';'));
        all.add((long) x.story());
        all.add((long) x.scene(0, 0));
        return all;
    }

    private static void same(String call, List<Long> got, List<Long> want) {
        due("answers behind " + call, got.size(), want.size());
        for (int i = 0; i < Math.min(got.size(), want.size()); i++) {
            due("answer " + i + " behind " + call, got.get(i), want.get(i));
        }
    }

    /** The call is refused midway, and all is as if it had not been. */
    private static void refused(String call, ToLongFunction<StoryNumbers> run, long refusal) {
        StoryNumbers x = midway();
        due(call, run.applyAsLong(x), refusal);
        same(call, answers(x), answers(midway()));
    }

    private static void refusedWhenFull(String call, ToLongFunction<StoryNumbers> run, long refusal) {
        StoryNumbers x = full();
        due(call, run.applyAsLong(x), refusal);
        same(call, answers(x), answers(full()));
    }

    private static void theStoryRefuses() {
        says("What is refused changes nothing");
        refused("feed(0)", x -> x.feed(0, 33), OUTSIDE);
        refused("feed(9)", x -> x.feed(9, 33), OUTSIDE);
        refused("scene(4, 0)", x -> x.scene(4, 0), UNKNOWN);
        refused("scene(0, 10)", x -> x.scene(0, 10), OUTSIDE);
        refused("never(3, 3)", x -> x.never(3, 3, true), UNKNOWN);
        refused("never(0, 8)", x -> x.never(0, 8, true), UNKNOWN);
        refused("never(8, 0)", x -> x.never(8, 0, true), UNKNOWN);
        refused("never(1, 32)", x -> x.never(1, 32, false), UNKNOWN);
        refused("never(0, -31)", x -> x.never(0, -31, false), UNKNOWN);
        refused("count(8)", x -> x.count(8), OUTSIDE);
        refusedWhenFull("feed(3) at 398", x -> x.feed(3, 0x21), FULL);
        refusedWhenFull("feed(8) at 398", x -> x.feed(8, 0x21), FULL);
    }

    private static void ordersRefuse() {
        refused("may(4, 0)", x -> x.may(4, 0), UNKNOWN);
        refused("may(0, 16)", x -> x.may(0, 16), UNKNOWN);
        refused("next(16)", x -> x.next(16), UNKNOWN);
        refused("orders(16)", x -> x.orders(16), UNKNOWN);
        refused("order(16, 0, 0)", x -> x.order(16, 0, 0), UNKNOWN);
        refused("order(15, -1, 0)", x -> x.order(15, -1, 0), OUTSIDE);
        refused("place(4, 0)", x -> x.place(4, 0), UNKNOWN);
        refused("place(0, 2)", x -> x.place(0, 2), OUTSIDE);
        refused("open(16)", x -> x.open(16), UNKNOWN);
        refused("atOnce(16)", x -> x.atOnce(16), UNKNOWN);
        refused("along(4)", x -> x.along(4), UNKNOWN);
        refused("shortest(4, 0)", x -> x.shortest(4, 0), UNKNOWN);
        refused("shortest(0, 2)", x -> x.shortest(0, 2), OUTSIDE);
    }

    private static void numbersRefuse() {
        refused("law(0, 61)", x -> x.law(0, 61), OUTSIDE);
        refused("law(1, 0)", x -> x.law(1, 0), OUTSIDE);
        refused("law(7, 100)", x -> x.law(7, 100), OUTSIDE);
        refused("law(8, 1)", x -> x.law(8, 1), OUTSIDE);
        refused("add(4)", x -> x.add(4), UNKNOWN);
        refused("add(1) again", x -> x.add(1), NOT);
        refused("add(0) printed", x -> x.add(0), NOT);
        refused("number(1, 0)", x -> x.number(1, 0), UNKNOWN);
        refused("number(0, 12)", x -> x.number(0, 12), OUTSIDE);
        refusedWhenFull("add(3) as the seventh", x -> x.add(3), FULL);
        refusedWhenFull("print() above MOST", StoryNumbersRefusals::printAboveMost, NOT);
    }

    /** MOST is as it was behind it. */
    private static long printAboveMost(StoryNumbers x) {
        x.law(1, 5);
        long answer = x.print();
        x.law(1, 60);
        return answer;
    }

    private static void plansAndBookRefuse() {
        refused("plan(1, 16, NONE)", x -> x.plan(1, 16, NONE), UNKNOWN);
        refused("plan(1, 1, NONE)", x -> x.plan(1, 1, NONE), UNKNOWN);
        refused("plan(13, 2, NONE)", x -> x.plan(13, 2, NONE), OUTSIDE);
        refused("kind(1, 256, 0)", x -> x.kind(1, 256, 0), UNKNOWN);
        refused("kind(0, 0, 0)", x -> x.kind(0, 0, 0), OUTSIDE);
        refused("kind(1, 0, 2)", x -> x.kind(1, 0, 2), OUTSIDE);
        refused("chapter(9, 0)", x -> x.chapter(9, 0), OUTSIDE);
        refused("chapter(2, 0)", x -> x.chapter(2, 0), NOT);
        refused("chapter(1, 1)", x -> x.chapter(1, 1), UNKNOWN);
        refused("keep(2)", x -> x.keep(2), UNKNOWN);
        refused("goBack(2)", x -> x.goBack(2), UNKNOWN);
        refused("goBack(1)", x -> x.goBack(1), NOT);
    }

    /** A FAULT empties THE TEXT and is told by fault(); all else is as it was. */
    private static void faultsChangeNothingElse() {
        says("-10 less the number of its FAULT (it is as it was)");
        String[] texts = {"!", ";scene 0;", ";scene 1 joy 9 with 1,1;", ";scene 1 after 1;", ";" + clauses(10),
            " opens 1;scene 1 opens 1;", " dies 1;scene 1 dies 1;"};
        for (int i = 0; i < texts.length; i++) {
            StoryNumbers x = midway();
            feed(x, texts[i]);
            due("story() of " + texts[i], x.story(), -11 - i);
            int fault = x.fault();
            feed(x, "scene 4");
            List<Long> got = answers(x);
            List<Long> want = answers(midway());
            due("fault() is the first answer", got.get(0), fault);
            want.set(0, (long) fault);
            same("story() of " + texts[i], got, want);
        }
    }

    /** What is only asked changes nothing either. */
    private static void questionsChangeNothing() {
        says("Nothing is promised beyond the answers and state changes described above");
        List<Consumer<StoryNumbers>> asked = List.of(
                x -> x.order(15, 0, 0), x -> x.order(15, 1 << 20, 0), x -> x.plan(2, 14, 0), x -> x.plan(12, 6, 11),
                x -> x.kind(1, 255, 0), x -> x.chapter(1, 0), x -> x.shortest(3, 1), x -> x.place(3, 0),
                x -> x.never(0, 1, true), x -> x.never(2, 3, false), x -> x.law(3, 7), StoryNumbers::lines);
        for (int i = 0; i < asked.size(); i++) {
            StoryNumbers x = midway();
            asked.get(i).accept(x);
            same("question " + i, answers(x), answers(midway()));
        }
    }

    private static void ofSeveralTheFirst() {
        says("REFUSALS, of several the first in this order: UNKNOWN, OUTSIDE, NOT, FULL");
        StoryNumbers x = midway();
        due("scene(4, 10)", x.scene(4, 10), UNKNOWN);
        due("may(4, 16)", x.may(4, 16), UNKNOWN);
        due("order(16, -1, 9)", x.order(16, -1, 9), UNKNOWN);
        due("place(4, 2)", x.place(4, 2), UNKNOWN);
        due("shortest(-1, 2)", x.shortest(-1, 2), UNKNOWN);
        due("number(1, 12)", x.number(1, 12), UNKNOWN);
        due("plan(0, 16, NONE)", x.plan(0, 16, NONE), UNKNOWN);
        due("plan(13, 1, NONE)", x.plan(13, 1, NONE), UNKNOWN);
        due("kind(0, 256, 0)", x.kind(0, 256, 0), UNKNOWN);
        due("kind(1, -1, 2)", x.kind(1, -1, 2), UNKNOWN);
        due("kind(13, 256, 2)", x.kind(13, 256, 2), UNKNOWN);
        due("goBack(2)", x.goBack(2), UNKNOWN);
        // in chapter() UNKNOWN is last of all
        due("chapter(9, 9)", x.chapter(9, 9), OUTSIDE);
        due("chapter(0, -2)", x.chapter(0, -2), OUTSIDE);
        due("chapter(2, 2)", x.chapter(2, 2), NOT);
        due("chapter(1, 1)", x.chapter(1, 1), UNKNOWN);
        x = full();
        due("feed(9) when full", x.feed(9, 0), OUTSIDE);
        due("feed(0) when full", x.feed(0, 0), OUTSIDE);
        due("feed(3) when full", x.feed(3, 0), FULL);
        due("add(7) when full", x.add(7), UNKNOWN);
        due("add(0) when full", x.add(0), NOT);
        due("add(3) when full", x.add(3), FULL);
    }

    /** What the last calls answer does not wear off with those ahead of them. */
    private static void upToTheLastCall() {
        says("An object is used for at most 512 calls after it has been made");
        StoryNumbers x = new StoryNumbers();
        long[] bytes = {0x7363656e65313b73L, 0x63656e65323b7363L, 0x656e65333b736365L, 0x6e65343b7363656eL,
            0x65353b7363656e65L, 0x363b7363656e6537L, 0x3b7363656e65383bL, 0x7363656e65393b73L};
        for (long eight : bytes) {
            x.feed(8, eight);
        }
        x.feed(7, 0x63656e6531303bL);
        due("story() as call 10", x.story(), 10);
        for (int call = 11; call <= 506; call += 8) {
            int turn = call / 8;
            x.law(5, turn % 20);
            x.plan(4, 1023 - turn % 64, 1);
            x.kind(3, turn * 4, 0);
            x.never(turn % 7, 7, turn % 2 == 0);
            x.orders(1023);
            x.add(0);
            x.drop();
            x.keep(turn % 2);
        }
        due("plan(10, 1023, 9) as call 507", x.plan(10, 1023, 9), 512);
        due("kind(2, 255, 0) as call 508", x.kind(2, 255, 0), 1023);
        due("order(1023, 3628799, 0) as call 509", x.order(1023, 3628799, 0), 9);
        due("add(9) as call 510", x.add(9), 1);
        due("goBack(0) as call 511", x.goBack(0), 1);
        due("count(3) as call 512", x.count(3), 0);
    }

    public static void main(String[] args) {
        theStoryRefuses();
        ordersRefuse();
        numbersRefuse();
        plansAndBookRefuse();
        faultsChangeNothingElse();
        questionsChangeNothing();
        ofSeveralTheFirst();
        upToTheLastCall();
        end("refusals");
    }
}
