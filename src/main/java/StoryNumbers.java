/** A story by numbers: a novel that comes out in instalments. See README.md. */
public final class StoryNumbers {
    public static final int NONE = -1, UNKNOWN = -1001, OUTSIDE = -1002, NOT = -1003, FULL = -1004;

    private static final int MOST_BYTES = 400;
    private static final int MOST_SCENES = 10;
    private static final int MOST_NUMBERS = 12;
    private static final int MOST_IN_A_NUMBER = 6;
    private static final int MOST_CHAPTERS = 8;
    private static final int MOST_READERS = 1000000000;
    private static final int STATES = 2;
    /** PERSONS, QUESTIONS and FACTS are 0 to 7 each. */
    private static final int OF_A_KIND = 8;
    private static final int ALL_SETS = 1 << MOST_SCENES;

    private final Text text = new Text();
    private final Reader reader = new Reader(text);
    private final Story story = new Story();
    /** Told into first, so that a text with a FAULT leaves THE STORY as it was. */
    private final Story trial = new Story();
    private final Rules rules = new Rules(story);
    private final Sets sets = new Sets(story, rules);
    private final Book book = new Book();
    private final Press press = new Press(story, book);
    private final Chapters chapters = new Chapters(story, book);
    private final Book[] states = {new Book(), new Book()};
    private final boolean[] isKept = new boolean[STATES];
    /** Made when first asked for: its rows are by far the largest. */
    private Plans plans;

    public StoryNumbers() {
    }

    // ---- the story

    public int feed(int n, long bytes) {
        if (n < 1 || n > 8) {
            return OUTSIDE;
        }
        if (text.length + n > MOST_BYTES) {
            return FULL;
        }
        for (int i = n - 1; i >= 0; i--) {
            text.append((int) (bytes >>> (8 * i)) & 255);
        }
        return text.length;
    }

    public int story() {
        int fault = reader.read(trial);
        text.length = 0;
        if (fault != 0) {
            return -10 - fault;
        }
        story.become(trial);
        book.clear();
        isKept[0] = false;
        isKept[1] = false;
        sets.isFresh = false;
        forgetPlans();
        return story.count;
    }

    public int fault() {
        return reader.faultAt;
    }

    public int scene(int k, int what) {
        if (!isScene(k)) {
            return UNKNOWN;
        }
        if (what < 0 || what > 9) {
            return OUTSIDE;
        }
        return what == 9 ? book.numberOf(k) : story.cell(k, what);
    }

    public int never(int f, int g, boolean is) {
        if (f < 0 || f >= OF_A_KIND || g < 0 || g >= OF_A_KIND || f == g) {
            return UNKNOWN;
        }
        boolean was = rules.isNever(f, g);
        if (was != is) {
            rules.turnNever(f, g);
            sets.isFresh = false;
            forgetPlans();
        }
        return was ? 1 : 0;
    }

    public int count(int what) {
        switch (what) {
            case 0: return story.count;
            case 1: return book.printed();
            case 2: return book.numbers;
            case 3: return book.drafted();
            case 4: return story.sum(story.all(), Story.LENGTH);
            case 5: return text.length;
            case 6: return rules.pairs;
            case 7: return Integer.bitCount(story.union(story.all(), Story.OPENS));
            default: return OUTSIDE;
        }
    }

    // ---- orders

    public int may(int k, int set) {
        if (!isScene(k) || !areScenes(set)) {
            return UNKNOWN;
        }
        return rules.nextBehind(set) >> k & 1;
    }

    public int next(int set) {
        return areScenes(set) ? rules.nextBehind(set) : UNKNOWN;
    }

    public long orders(int set) {
        return areScenes(set) ? freshSets().ways[set] : UNKNOWN;
    }

    public int order(int set, long i, int j) {
        if (!areScenes(set)) {
            return UNKNOWN;
        }
        if (i < 0) {
            return OUTSIDE;
        }
        return freshSets().sceneOfOrder(set, i, j);
    }

    public int good() {
        return freshSets().countGood();
    }

    public int place(int k, int what) {
        if (!isScene(k)) {
            return UNKNOWN;
        }
        if (what < 0 || what > 1) {
            return OUTSIDE;
        }
        return what == 0 ? freshSets().leastPlace(k) : freshSets().greatestPlace(k);
    }

    public int open(int set) {
        return areScenes(set) ? story.openBehind(set) : UNKNOWN;
    }

    public int atOnce(int set) {
        return areScenes(set) ? freshSets().fewest[set] : UNKNOWN;
    }

    public int along(int k) {
        return isScene(k) ? freshSets().takenAlong(k) : UNKNOWN;
    }

    public int shortest(int k, int what) {
        if (!isScene(k)) {
            return UNKNOWN;
        }
        if (what < 0 || what > 1) {
            return OUTSIDE;
        }
        int set = freshSets().shortestTo(k);
        return what == 0 || set == NONE ? set : story.sum(set, Story.LENGTH);
    }

    // ---- numbers

    public int law(int what, int v) {
        if (!book.mayBecome(what, v)) {
            return OUTSIDE;
        }
        int was = book.laws[what];
        book.laws[what] = v;
        forgetPlans();
        return was;
    }

    public int add(int k) {
        if (!isScene(k)) {
            return UNKNOWN;
        }
        if ((rules.nextBehind(book.setUpTo(book.filled)) >> k & 1) == 0) {
            return NOT;
        }
        if (book.drafted() >= MOST_IN_A_NUMBER) {
            return FULL;
        }
        book.append(k);
        return book.drafted();
    }

    public int drop() {
        return book.drafted() == 0 ? NONE : book.takeLast();
    }

    public int lines() {
        return press.linesOf(book.numbers);
    }

    public int print() {
        if (book.drafted() == 0) {
            return NOT;
        }
        int due = press.linesOf(book.numbers);
        if (due < book.laws[Book.LEAST] || due > book.laws[Book.MOST]) {
            return NOT;
        }
        if (book.numbers >= MOST_NUMBERS) {
            return FULL;
        }
        book.closeNumber();
        forgetPlans();
        return book.numbers - 1;
    }

    public int number(int n, int what) {
        if (n < 0 || n >= book.numbers) {
            return UNKNOWN;
        }
        switch (what) {
            case 0: return book.end(n) - book.start(n);
            case 1: return press.linesOf(n);
            case 2: return press.pullOf(n);
            case 3: return press.readersBehind(n);
            case 4: return press.openBehindNumber(n);
            case 5: return press.remindedIn(n);
            default: return what < 6 || what > 11 ? OUTSIDE : book.sceneOf(n, what - 6);
        }
    }

    public int readers() {
        return press.readersBehind(book.numbers - 1);
    }

    // ---- plans

    public int plan(int n, int set, int i) {
        if (!areScenes(set) || (set & book.setUpTo(book.printed())) != 0) {
            return UNKNOWN;
        }
        if (n < 1 || n > MOST_NUMBERS) {
            return OUTSIDE;
        }
        Plans fresh = freshPlans();
        fresh.planFor(set);
        return i == NONE ? fresh.worthOfBest(n) : fresh.partOfBest(n, i);
    }

    public int kind(int n, int persons, int what) {
        if (persons < 0 || persons >= 1 << OF_A_KIND) {
            return UNKNOWN;
        }
        if (n < 1 || n > MOST_NUMBERS || what < 0 || what > 1) {
            return OUTSIDE;
        }
        int living = story.all() & ~book.setUpTo(book.printed()) & ~story.deathsOf(persons);
        Plans fresh = freshPlans();
        fresh.gatherFor(living);
        int set = fresh.kindest(n, living);
        return what == 0 || set == NONE ? set : fresh.worthGathered(n, set);
    }

    // ---- the book, pauses

    public int chapter(int c, int i) {
        if (c < 1 || c > MOST_CHAPTERS) {
            return OUTSIDE;
        }
        if (book.printed() < c) {
            return NOT;
        }
        if (i != NONE && (i < 0 || i >= c)) {
            return UNKNOWN;
        }
        chapters.part(c);
        return i == NONE ? chapters.uneven(c) : chapters.scenesIn(c, i);
    }

    public int keep(int i) {
        if (i < 0 || i >= STATES) {
            return UNKNOWN;
        }
        states[i].become(book);
        isKept[i] = true;
        return 1;
    }

    public int goBack(int i) {
        if (i < 0 || i >= STATES) {
            return UNKNOWN;
        }
        if (!isKept[i]) {
            return NOT;
        }
        book.become(states[i]);
        forgetPlans();
        return 1;
    }

    private boolean isScene(int k) {
        return k >= 0 && k < story.count;
    }

    private boolean areScenes(int set) {
        return (set & ~story.all()) == 0;
    }

    private Sets freshSets() {
        if (!sets.isFresh) {
            sets.build();
        }
        return sets;
    }

    private Plans freshPlans() {
        Sets fresh = freshSets();
        if (plans == null) {
            plans = new Plans(story, fresh, book);
        }
        return plans;
    }

    private void forgetPlans() {
        if (plans != null) {
            plans.forget();
        }
    }

    /** THE TEXT, as it is fed. */
    private static final class Text {
        final int[] bytes = new int[MOST_BYTES];
        int length = 0;

        void append(int b) {
            if (length < MOST_BYTES) {
                bytes[length] = b;
                length++;
            }
        }

        /** The byte there; NONE, which no byte is, from the end on. */
        int at(int i) {
            return i >= 0 && i < length ? bytes[i] : NONE;
        }
    }

    /** Reads THE TEXT clause by clause and stops at the first byte that has a FAULT. */
    private static final class Reader {
        /** The words in the order in which a clause has them, each filled up with blanks to five letters. */
        private static final String WORDS = "scenejoy  with afteropensshutstellsneedsdies ";
        private static final int WORD_LENGTH = 5;
        private static final int[] GREATEST = {99, 9, 7, 9, 7, 7, 7, 7, 7};

        private final Text text;
        private Story told;
        private int at;
        private int fault;
        int faultAt = NONE;
        private int opened;
        private int shut;
        private int dead;

        Reader(Text text) {
            this.text = text;
        }

        /** The number of the FAULT, 0: there is none, and the Story has all that is told. */
        int read(Story into) {
            told = into;
            told.count = 0;
            at = 0;
            fault = 0;
            faultAt = NONE;
            opened = 0;
            shut = 0;
            dead = 0;
            for (int clause = 0; clause <= MOST_SCENES && fault == 0; clause++) {
                skipBlanks();
                if (at >= text.length) {
                    return 0;
                }
                readClause();
            }
            return fault;
        }

        private void fail(int number, int where) {
            fault = number;
            faultAt = where;
        }

        private void skipBlanks() {
            while (at < text.length && text.at(at) == ' ') {
                at++;
            }
        }

        private void readClause() {
            int first = at;
            if (takeWord() != Story.LENGTH) {
                fail(1, first);
                return;
            }
            if (told.count >= MOST_SCENES) {
                fail(5, first);
                return;
            }
            told.clearScene(told.count);
            readNumber(Story.LENGTH);
            int last = Story.LENGTH;
            // each word but the first stands once at most, and the end has a turn of its own
            for (int turn = 0; turn < Story.CELLS && fault == 0; turn++) {
                skipBlanks();
                if (text.at(at) == ';') {
                    at++;
                    told.closeScene();
                    return;
                }
                last = readPart(last);
            }
        }

        /** Reads a word that may stand behind the last one, and its list: which word it is. */
        private int readPart(int last) {
            int first = at;
            int word = takeWord();
            if (word <= last) {
                fail(1, first);
                return last;
            }
            readNumber(word);
            for (int more = 0; more < MOST_SCENES && fault == 0 && takeComma(word); more++) {
                readNumber(word);
            }
            return word;
        }

        private boolean takeComma(int word) {
            skipBlanks();
            if (!Story.isList(word) || text.at(at) != ',') {
                return false;
            }
            at++;
            return true;
        }

        /** Which word begins here, and goes behind it; NONE: no word that there is. */
        private int takeWord() {
            int end = at;
            while (end < text.length && text.at(end) >= 'a' && text.at(end) <= 'z') {
                end++;
            }
            for (int word = 0; word < Story.CELLS; word++) {
                if (isWord(word, end)) {
                    at = end;
                    return word;
                }
            }
            return NONE;
        }

        private boolean isWord(int word, int end) {
            for (int i = 0; i < WORD_LENGTH; i++) {
                int letter = at + i < end ? text.at(at + i) : ' ';
                if (letter != WORDS.charAt(word * WORD_LENGTH + i)) {
                    return false;
                }
            }
            return end - at <= WORD_LENGTH;
        }

        private void readNumber(int word) {
            skipBlanks();
            int first = at;
            int value = 0;
            while (at < text.length && text.at(at) >= '0' && text.at(at) <= '9') {
                // kept low: of three figures or more the value does not matter
                value = value % 100 * 10 + text.at(at) - '0';
                at++;
            }
            int wrong = faultOf(word, value, at - first);
            if (wrong != 0) {
                fail(wrong, first);
                return;
            }
            take(word, value);
        }

        private int faultOf(int word, int value, int figures) {
            if (figures == 0) {
                return 1;
            }
            if (figures > 2 || value > GREATEST[word] || word == Story.LENGTH && value == 0) {
                return 2;
            }
            if (Story.isList(word) && (told.cell(told.count, word) >> value & 1) == 1) {
                return 3;
            }
            if (word == Story.AFTER && value >= told.count) {
                return 4;
            }
            if (word == Story.OPENS && (opened >> value & 1) == 1
                    || word == Story.SHUTS && (shut >> value & 1) == 1) {
                return 6;
            }
            return word == Story.DIES && (dead >> value & 1) == 1 ? 7 : 0;
        }

        private void take(int word, int value) {
            if (Story.isList(word)) {
                told.include(told.count, word, value);
            } else {
                told.put(told.count, word, value);
            }
            if (word == Story.OPENS) {
                opened |= 1 << value;
            } else if (word == Story.SHUTS) {
                shut |= 1 << value;
            } else if (word == Story.DIES) {
                dead |= 1 << value;
                // who dies in a SCENE is in it, told so or not
                told.include(told.count, Story.PERSONS, value);
            }
        }
    }

    /** SCENES with what is told of each: a cell a word of its clause. */
    private static final class Story {
        static final int LENGTH = 0, JOY = 1, PERSONS = 2, AFTER = 3, OPENS = 4, SHUTS = 5, TELLS = 6, NEEDS = 7, DIES = 8;
        static final int CELLS = 9;

        final int[][] cells = new int[MOST_SCENES][CELLS];
        int count = 0;

        static boolean isList(int word) {
            return word >= PERSONS && word <= NEEDS;
        }

        int cell(int k, int what) {
            return k >= 0 && k < MOST_SCENES && what >= 0 && what < CELLS ? cells[k][what] : 0;
        }

        void put(int k, int what, int value) {
            if (k >= 0 && k < MOST_SCENES && what >= 0 && what < CELLS) {
                cells[k][what] = value;
            }
        }

        /** One more in the SET that a cell is. */
        void include(int k, int what, int one) {
            if (k >= 0 && k < MOST_SCENES && what >= 0 && what < CELLS) {
                cells[k][what] |= 1 << one;
            }
        }

        void clearScene(int k) {
            for (int what = 0; what < CELLS; what++) {
                put(k, what, what == DIES ? NONE : 0);
            }
        }

        void closeScene() {
            if (count < MOST_SCENES) {
                count++;
            }
        }

        void become(Story other) {
            for (int k = 0; k < MOST_SCENES; k++) {
                System.arraycopy(other.cells[k], 0, cells[k], 0, CELLS);
            }
            count = other.count;
        }

        int all() {
            return (1 << count) - 1;
        }

        int union(int set, int what) {
            int union = 0;
            for (int k = 0; k < count; k++) {
                if ((set >> k & 1) == 1) {
                    union |= cells[k][what];
                }
            }
            return union;
        }

        int sum(int set, int what) {
            int sum = 0;
            for (int k = 0; k < count; k++) {
                if ((set >> k & 1) == 1) {
                    sum += cells[k][what];
                }
            }
            return sum;
        }

        /** PERSONS who die in a SCENE of the SET. */
        int deadIn(int set) {
            int dead = 0;
            for (int k = 0; k < count; k++) {
                if ((set >> k & 1) == 1 && cells[k][DIES] != NONE) {
                    dead |= 1 << cells[k][DIES];
                }
            }
            return dead;
        }

        /** SCENES in which one of these PERSONS dies. */
        int deathsOf(int persons) {
            int deaths = 0;
            for (int k = 0; k < count; k++) {
                if ((deadIn(1 << k) & persons) != 0) {
                    deaths |= 1 << k;
                }
            }
            return deaths;
        }

        int openBehind(int set) {
            return union(set, OPENS) & ~union(set, SHUTS);
        }
    }

    /** NEVER, and which SCENE MAY come behind which SET. */
    private static final class Rules {
        private final Story story;
        /** For each FACT those that are NEVER told with it. */
        private final int[] against = new int[OF_A_KIND];
        int pairs = 0;

        Rules(Story story) {
            this.story = story;
        }

        boolean isNever(int f, int g) {
            return f >= 0 && f < OF_A_KIND && (against[f] >> g & 1) == 1;
        }

        void turnNever(int f, int g) {
            if (f < 0 || f >= OF_A_KIND || g < 0 || g >= OF_A_KIND) {
                return;
            }
            pairs += isNever(f, g) ? -1 : 1;
            against[f] ^= 1 << g;
            against[g] ^= 1 << f;
        }

        /** SCENES that MAY come behind the SET. */
        int nextBehind(int set) {
            return nextWhere(set, story.union(set, Story.OPENS), story.union(set, Story.TELLS), story.deadIn(set));
        }

        /** The same, where it is known what the SET opens and tells and who dies in it. */
        int nextWhere(int set, int opened, int told, int dead) {
            int next = 0;
            for (int k = 0; k < story.count; k++) {
                int[] scene = story.cells[k];
                if ((set >> k & 1) == 0
                        && (scene[Story.AFTER] & ~set) == 0
                        && (scene[Story.SHUTS] & ~(opened | scene[Story.OPENS])) == 0
                        && (scene[Story.NEEDS] & ~told) == 0
                        && (scene[Story.PERSONS] & dead) == 0
                        && mayTell(scene[Story.TELLS], told)) {
                    next |= 1 << k;
                }
            }
            return next;
        }

        private boolean mayTell(int tells, int told) {
            for (int f = 0; f < OF_A_KIND && tells >> f != 0; f++) {
                if ((tells >> f & 1) == 1 && (against[f] & (told | tells)) != 0) {
                    return false;
                }
            }
            return true;
        }
    }

    /** What is so of every SET of SCENES, worked out once for THE STORY and NEVER as they are. */
    private static final class Sets {
        private final Story story;
        private final Rules rules;
        boolean isFresh = false;
        private int size;
        final int[] lines = new int[ALL_SETS];
        final int[] joy = new int[ALL_SETS];
        private final int[] opened = new int[ALL_SETS];
        private final int[] shut = new int[ALL_SETS];
        private final int[] told = new int[ALL_SETS];
        private final int[] dead = new int[ALL_SETS];
        final int[] open = new int[ALL_SETS];
        final int[] next = new int[ALL_SETS];
        final int[] ways = new int[ALL_SETS];
        final int[] fewest = new int[ALL_SETS];
        /** In how many ways a SET goes on to be the whole one, which is endedAt. */
        private final int[] endings = new int[ALL_SETS];
        private int endedAt;

        Sets(Story story, Rules rules) {
            this.story = story;
            this.rules = rules;
        }

        void build() {
            size = 1 << story.count;
            for (int k = 0; k < story.count; k++) {
                addUp(k, 1 << k);
            }
            for (int set = 0; set < size; set++) {
                open[set] = opened[set] & ~shut[set];
                next[set] = rules.nextWhere(set, opened[set], told[set], dead[set]);
                ways[set] = set == 0 ? 1 : 0;
                fewest[set] = NONE;
            }
            for (int set = 0; set < size; set++) {
                if (ways[set] > 0) {
                    fewest[set] = Math.max(fewest[set], Integer.bitCount(open[set]));
                    spread(set);
                }
            }
            endedAt = NONE;
            isFresh = true;
        }

        /** The SETS whose greatest SCENE is k have what those without it have, and what k has. */
        private void addUp(int k, int bit) {
            int[] scene = story.cells[k];
            int dies = story.deadIn(bit);
            for (int less = 0; less < bit; less++) {
                int set = less | bit;
                lines[set] = lines[less] + scene[Story.LENGTH];
                joy[set] = joy[less] + scene[Story.JOY];
                opened[set] = opened[less] | scene[Story.OPENS];
                shut[set] = shut[less] | scene[Story.SHUTS];
                told[set] = told[less] | scene[Story.TELLS];
                dead[set] = dead[less] | dies;
            }
        }

        /** Hands on what is known of a GOOD SET to those that have one SCENE more. */
        private void spread(int set) {
            for (int k = 0; k < story.count; k++) {
                if ((next[set] >> k & 1) == 1) {
                    int more = set | 1 << k;
                    fewest[more] = ways[more] == 0 ? fewest[set] : Math.min(fewest[more], fewest[set]);
                    ways[more] += ways[set];
                }
            }
        }

        int countGood() {
            int good = 0;
            for (int set = 0; set < size; set++) {
                if (ways[set] > 0) {
                    good++;
                }
            }
            return good;
        }

        private void findEndings(int whole) {
            if (endedAt == whole) {
                return;
            }
            for (int set = whole; set >= 0; set--) {
                endings[set] = set == whole ? 1 : 0;
                int more = (set & ~whole) == 0 ? next[set] & whole : 0;
                for (int k = 0; k < story.count; k++) {
                    if ((more >> k & 1) == 1) {
                        endings[set] += endings[set | 1 << k];
                    }
                }
            }
            endedAt = whole;
        }

        int sceneOfOrder(int whole, long i, int j) {
            if (i >= ways[whole] || j < 0 || j >= Integer.bitCount(whole)) {
                return NONE;
            }
            findEndings(whole);
            long left = i;
            int set = 0;
            int scene = NONE;
            for (int place = 0; place <= j; place++) {
                int may = next[set] & whole;
                scene = NONE;
                for (int k = 0; k < story.count && scene == NONE; k++) {
                    int here = (may >> k & 1) == 1 ? endings[set | 1 << k] : 0;
                    if (left < here) {
                        scene = k;
                    } else {
                        left -= here;
                    }
                }
                if (scene == NONE) {
                    return NONE;
                }
                set |= 1 << scene;
            }
            return scene;
        }

        /** Whether some ORDER of all SCENES has k right behind the SET. */
        private boolean isPlace(int set, int k) {
            return ways[set] > 0 && (next[set] >> k & 1) == 1 && endings[set | 1 << k] > 0;
        }

        int leastPlace(int k) {
            findEndings(size - 1);
            int least = NONE;
            for (int set = 0; set < size; set++) {
                int place = Integer.bitCount(set);
                if (isPlace(set, k) && (least == NONE || place < least)) {
                    least = place;
                }
            }
            return least;
        }

        int greatestPlace(int k) {
            findEndings(size - 1);
            int greatest = NONE;
            for (int set = 0; set < size; set++) {
                if (isPlace(set, k)) {
                    greatest = Math.max(greatest, Integer.bitCount(set));
                }
            }
            return greatest;
        }

        int takenAlong(int k) {
            int without = 0;
            for (int set = 0; set < size; set++) {
                if (ways[set] > 0 && (set >> k & 1) == 0) {
                    without |= set;
                }
            }
            return story.all() & ~without;
        }

        int shortestTo(int k) {
            int shortest = NONE;
            for (int set = 0; set < size; set++) {
                if (ways[set] > 0 && (set >> k & 1) == 1 && (shortest == NONE || lines[set] < lines[shortest])) {
                    shortest = set;
                }
            }
            return shortest;
        }
    }

    /** What is printed, THE DRAFT and LAWS: all that a STATE keeps. */
    private static final class Book {
        static final int LEAST = 0, MOST = 1, MEMORY = 2, REMIND = 3, HOOK = 4, WONDER = 5, TIRED = 6, DULL = 7;
        private static final int LAWS = 8;
        private static final int[] AT_FIRST = {1, 60, 2, 3, 4, 2, 1, 8};
        private static final int[] LOWEST = {1, 1, 1, 0, 0, 0, 0, 0};
        private static final int[] HIGHEST = {99, 200, 9, 20, 20, 20, 20, 99};

        /** SCENES printed and then those of THE DRAFT, one behind the other. */
        private final int[] row = new int[MOST_SCENES];
        int filled = 0;
        private final int[] ends = new int[MOST_NUMBERS];
        int numbers = 0;
        final int[] laws = AT_FIRST.clone();

        void clear() {
            filled = 0;
            numbers = 0;
        }

        void become(Book other) {
            System.arraycopy(other.row, 0, row, 0, MOST_SCENES);
            System.arraycopy(other.ends, 0, ends, 0, MOST_NUMBERS);
            System.arraycopy(other.laws, 0, laws, 0, LAWS);
            filled = other.filled;
            numbers = other.numbers;
        }

        boolean mayBecome(int what, int v) {
            if (what < 0 || what >= LAWS || v < LOWEST[what] || v > HIGHEST[what]) {
                return false;
            }
            return (what != LEAST || v <= laws[MOST]) && (what != MOST || v >= laws[LEAST]);
        }

        int start(int n) {
            return n < 1 || n > numbers ? 0 : ends[n - 1];
        }

        /** Where a NUMBER ends in the row; THE DRAFT counts as the NUMBER behind the last. */
        int end(int n) {
            return n >= 0 && n < numbers ? ends[n] : filled;
        }

        int printed() {
            return start(numbers);
        }

        int drafted() {
            return filled - printed();
        }

        void append(int k) {
            if (filled < MOST_SCENES) {
                row[filled] = k;
                filled++;
            }
        }

        int takeLast() {
            if (filled < 1) {
                return NONE;
            }
            filled--;
            return row[filled];
        }

        void closeNumber() {
            if (numbers < MOST_NUMBERS) {
                ends[numbers] = filled;
                numbers++;
            }
        }

        int sceneOf(int n, int i) {
            int place = start(n) + i;
            return i < 0 || place >= end(n) ? NONE : row[place];
        }

        int setUpTo(int end) {
            return setFrom(0, end);
        }

        int setOf(int n) {
            return setFrom(start(n), end(n));
        }

        private int setFrom(int start, int end) {
            int set = 0;
            for (int place = start; place < end && place < MOST_SCENES; place++) {
                set |= 1 << row[place];
            }
            return set;
        }

        int numberOf(int k) {
            for (int n = 0; n < numbers; n++) {
                if ((setOf(n) >> k & 1) == 1) {
                    return n;
                }
            }
            return NONE;
        }
    }

    /** What NUMBERS are like under the LAWS as they are now. */
    private static final class Press {
        private static final int READERS_AT_FIRST = 1000;
        /** QUESTIONS tire that were opened so many NUMBERS ahead, or more. */
        private static final int LONG_AGO = 4;

        private final Story story;
        private final Book book;

        Press(Story story, Book book) {
            this.story = story;
            this.book = book;
        }

        int linesOf(int n) {
            int reminders = book.laws[Book.REMIND] * Integer.bitCount(remindedIn(n));
            return story.sum(book.setOf(n), Story.LENGTH) + reminders;
        }

        int remindedIn(int n) {
            int known = 0;
            int remembered = 0;
            for (int ahead = 0; ahead < n; ahead++) {
                int persons = story.union(book.setOf(ahead), Story.PERSONS);
                known |= persons;
                if (n - ahead <= book.laws[Book.MEMORY]) {
                    remembered |= persons;
                }
            }
            return story.union(book.setOf(n), Story.PERSONS) & known & ~remembered;
        }

        int openBehindNumber(int n) {
            return story.openBehind(book.setUpTo(book.end(n)));
        }

        int pullOf(int n) {
            int open = openBehindNumber(n);
            int pull = story.sum(book.setOf(n), Story.JOY) + book.laws[Book.WONDER] * Integer.bitCount(open);
            int last = book.sceneOf(n, book.end(n) - book.start(n) - 1);
            if ((story.cell(last, Story.OPENS) & open) != 0) {
                pull += book.laws[Book.HOOK];
            }
            int longAgo = n < LONG_AGO ? 0 : book.setUpTo(book.end(n - LONG_AGO));
            return pull - book.laws[Book.TIRED] * Integer.bitCount(open & story.union(longAgo, Story.OPENS));
        }

        /** READERS behind a NUMBER; behind none (NONE) those at first. */
        int readersBehind(int n) {
            long readers = READERS_AT_FIRST;
            for (int printed = 0; printed <= n; printed++) {
                readers = readers * (100 - book.laws[Book.DULL] + pullOf(printed)) / 100;
                readers = Math.max(0, Math.min(MOST_READERS, readers));
            }
            return (int) readers;
        }
    }

    /** THE BEST PLAN of a SET, and the best of all SETS that are LIVING. */
    private static final class Plans {
        private static final int NO_ORDER = 0, HAS_ORDER = 1, HAS_HOOK = 2;

        private final Story story;
        private final Sets sets;
        private final Book book;
        private int printed;
        /** For each part behind what is ahead of it: NO_ORDER, or whether one ends with a SCENE that hooks. */
        private final int[] parts = new int[ALL_SETS];
        /** By how many parts are to come and the SET that is planned ahead of them: their WORTH, the first of them. */
        private final int[][] best = new int[MOST_SCENES + 1][ALL_SETS];
        private final int[][] first = new int[MOST_SCENES + 1][ALL_SETS];
        private int plannedFor = NONE;
        /** By how many parts there are and the SET that they make: their WORTH. */
        private final int[][] gathered = new int[MOST_SCENES + 1][ALL_SETS];
        private int gatheredFor = NONE;

        Plans(Story story, Sets sets, Book book) {
            this.story = story;
            this.sets = sets;
            this.book = book;
        }

        void forget() {
            plannedFor = NONE;
            gatheredFor = NONE;
        }

        int worthOfBest(int n) {
            return n < 0 || n > MOST_SCENES ? NONE : best[n][0];
        }

        int partOfBest(int n, int i) {
            if (i < 0 || i >= n || worthOfBest(n) == NONE) {
                return NONE;
            }
            int ahead = 0;
            for (int part = 0; part < i; part++) {
                ahead |= first[n - part][ahead];
            }
            return first[n - i][ahead];
        }

        int kindest(int n, int living) {
            int kindest = NONE;
            for (int set = 0; set <= living && n <= MOST_SCENES; set++) {
                if ((set & ~living) == 0 && gathered[n][set] != NONE && isKinder(n, set, kindest)) {
                    kindest = set;
                }
            }
            return kindest;
        }

        private boolean isKinder(int n, int set, int other) {
            if (other == NONE) {
                return true;
            }
            int more = Integer.bitCount(set) - Integer.bitCount(other);
            return more > 0 || more == 0 && gathered[n][set] > gathered[n][other];
        }

        int worthGathered(int n, int set) {
            return n < 0 || n > MOST_SCENES || set < 0 || set >= ALL_SETS ? NONE : gathered[n][set];
        }

        /** From the whole SET backwards, so that what comes behind a part is known when the part is chosen. */
        void planFor(int whole) {
            if (plannedFor == whole) {
                return;
            }
            printed = book.setUpTo(book.printed());
            int count = Integer.bitCount(whole);
            int ahead = whole;
            for (int turn = 0; turn < 1 << count; turn++) {
                for (int n = 0; n <= MOST_SCENES; n++) {
                    best[n][ahead] = n == 0 && ahead == whole ? 0 : NONE;
                }
                chooseFirst(ahead, whole & ~ahead);
                ahead = (ahead - 1) & whole;
            }
            plannedFor = whole;
        }

        private void chooseFirst(int ahead, int left) {
            findParts(ahead, left);
            int count = Integer.bitCount(left);
            int part = 0;
            for (int turn = 1; turn < 1 << count; turn++) {
                part = (part - left) & left;
                int worth = worthOfPart(ahead, part);
                int most = worth == NONE ? 0 : 1 + count - Integer.bitCount(part);
                for (int n = 1; n <= most; n++) {
                    int behind = best[n - 1][ahead | part];
                    // only a greater WORTH: of like ones the least part, which was ahead, stays
                    if (behind != NONE && behind + worth > best[n][ahead]) {
                        best[n][ahead] = behind + worth;
                        first[n][ahead] = part;
                    }
                }
            }
        }

        void gatherFor(int living) {
            if (gatheredFor == living) {
                return;
            }
            for (int n = 0; n <= MOST_SCENES; n++) {
                for (int set = 0; set <= living; set++) {
                    gathered[n][set] = n == 0 && set == 0 ? 0 : NONE;
                }
            }
            printed = book.setUpTo(book.printed());
            int count = Integer.bitCount(living);
            int ahead = 0;
            for (int turn = 0; turn < 1 << count; turn++) {
                if (isGathered(ahead)) {
                    gatherBehind(ahead, living & ~ahead);
                }
                ahead = (ahead - living) & living;
            }
            gatheredFor = living;
        }

        private boolean isGathered(int set) {
            for (int n = 0; n <= MOST_SCENES; n++) {
                if (gathered[n][set] != NONE) {
                    return true;
                }
            }
            return false;
        }

        private void gatherBehind(int ahead, int left) {
            findParts(ahead, left);
            int count = Integer.bitCount(left);
            int most = Integer.bitCount(ahead);
            int part = 0;
            for (int turn = 1; turn < 1 << count; turn++) {
                part = (part - left) & left;
                int worth = worthOfPart(ahead, part);
                for (int n = 0; n <= most && worth != NONE; n++) {
                    if (gathered[n][ahead] != NONE) {
                        int set = ahead | part;
                        gathered[n + 1][set] = Math.max(gathered[n + 1][set], gathered[n][ahead] + worth);
                    }
                }
            }
        }

        /** Fills parts for all SETS of what is left, SCENE by SCENE. */
        private void findParts(int ahead, int left) {
            int behind = printed | ahead;
            int count = 1 << Integer.bitCount(left);
            int part = 0;
            for (int turn = 0; turn < count; turn++) {
                parts[part] = turn == 0 ? HAS_ORDER : NO_ORDER;
                part = (part - left) & left;
            }
            for (int turn = 0; turn < count; turn++) {
                boolean mayGrow = Integer.bitCount(part) < MOST_IN_A_NUMBER && sets.lines[part] <= book.laws[Book.MOST];
                if (mayGrow && parts[part] != NO_ORDER) {
                    growPart(behind, part, sets.next[behind | part] & left);
                }
                part = (part - left) & left;
            }
        }

        private void growPart(int behind, int part, int next) {
            for (int k = 0; k < story.count && next >> k != 0; k++) {
                if ((next >> k & 1) == 1) {
                    int grown = part | 1 << k;
                    boolean hooks = (story.cell(k, Story.OPENS) & sets.open[behind | grown]) != 0;
                    parts[grown] = Math.max(parts[grown], hooks ? HAS_HOOK : HAS_ORDER);
                }
            }
        }

        /** WORTH of a part that findParts has looked at; NONE: it can be no part. */
        private int worthOfPart(int ahead, int part) {
            int lines = sets.lines[part];
            if (parts[part] == NO_ORDER || lines < book.laws[Book.LEAST] || lines > book.laws[Book.MOST]) {
                return NONE;
            }
            int open = sets.open[printed | ahead | part];
            int hook = parts[part] == HAS_HOOK ? book.laws[Book.HOOK] : 0;
            return sets.joy[part] + book.laws[Book.WONDER] * Integer.bitCount(open) + hook;
        }
    }

    /** SCENES printed, parted in CHAPTERS as evenly as can be. */
    private static final class Chapters {
        private final Story story;
        private final Book book;
        /** By how many CHAPTERS are to come and the place where they begin: the least sum, SCENES in the first. */
        private final int[][] least = new int[MOST_CHAPTERS + 1][MOST_SCENES + 1];
        private final int[][] first = new int[MOST_CHAPTERS + 1][MOST_SCENES + 1];

        Chapters(Story story, Book book) {
            this.story = story;
            this.book = book;
        }

        void part(int count) {
            int printed = book.printed();
            for (int place = 0; place <= printed && place <= MOST_SCENES; place++) {
                least[0][place] = place == printed ? 0 : NONE;
            }
            for (int c = 1; c <= count && c <= MOST_CHAPTERS; c++) {
                for (int place = 0; place <= printed && place <= MOST_SCENES; place++) {
                    chooseFirst(c, place, printed);
                }
            }
        }

        private void chooseFirst(int c, int place, int printed) {
            least[c][place] = NONE;
            for (int end = place + 1; end <= printed; end++) {
                int lines = story.sum(book.setFrom(place, end), Story.LENGTH);
                int sum = least[c - 1][end] + lines * lines;
                // only a lesser sum: of like ones the fewest SCENES, which were ahead, stay
                if (least[c - 1][end] != NONE && (least[c][place] == NONE || sum < least[c][place])) {
                    least[c][place] = sum;
                    first[c][place] = end - place;
                }
            }
        }

        int uneven(int count) {
            return count < 0 || count > MOST_CHAPTERS ? NONE : least[count][0];
        }

        int scenesIn(int count, int i) {
            int place = 0;
            for (int c = 0; c < i && place <= MOST_SCENES; c++) {
                place += first[count - c][place];
            }
            return place > MOST_SCENES ? 0 : first[count - i][place];
        }
    }
}
