import java.util.ArrayList;
import java.util.Arrays;
import java.util.List;
import java.util.Random;
import java.util.TreeSet;
import java.util.regex.Matcher;
import java.util.regex.Pattern;

/** Runs of calls, chosen by a fixed seed, held against a model that tries out every order and every plan. */
public final class StoryNumbersAgainstModel {
    private static final int NONE = -1, UNKNOWN = -1001, OUTSIDE = -1002, NOT = -1003, FULL = -1004;
    private static final int RUNS = 1500;
    private static final int CALLS = 160;

    /** What a clause tells. */
    private static final class Scene {
        int lines;
        int joy;
        int dies = NONE;
        final List<TreeSet<Integer>> lists = new ArrayList<>();

        Scene() {
            for (int i = 0; i < 6; i++) {
                lists.add(new TreeSet<>());
            }
        }

        TreeSet<Integer> persons() {
            TreeSet<Integer> all = new TreeSet<>(lists.get(0));
            if (dies != NONE) {
                all.add(dies);
            }
            return all;
        }

        TreeSet<Integer> after() {
            return lists.get(1);
        }

        TreeSet<Integer> opens() {
            return lists.get(2);
        }

        TreeSet<Integer> shuts() {
            return lists.get(3);
        }

        TreeSet<Integer> tells() {
            return lists.get(4);
        }

        TreeSet<Integer> needs() {
            return lists.get(5);
        }
    }

    /** What a STATE keeps. */
    private static final class State {
        final List<List<Integer>> numbers = new ArrayList<>();
        final List<Integer> draft = new ArrayList<>();
        int[] laws = {1, 60, 2, 3, 4, 2, 1, 8};

        State copy() {
            State copy = new State();
            for (List<Integer> number : numbers) {
                copy.numbers.add(new ArrayList<>(number));
            }
            copy.draft.addAll(draft);
            copy.laws = laws.clone();
            return copy;
        }

        List<Integer> printed() {
            List<Integer> all = new ArrayList<>();
            for (List<Integer> number : numbers) {
                all.addAll(number);
            }
            return all;
        }
    }

    /** The document told once more, as plainly and slowly as can be. */
    private static final class Model {
        private static final List<String> WORDS =
                Arrays.asList("scene", "joy", "with", "after", "opens", "shuts", "tells", "needs", "dies");
        private static final Pattern TOKEN = Pattern.compile("[a-z]+|[0-9]+|[^ ]", Pattern.DOTALL);

        StringBuilder text = new StringBuilder();
        List<Scene> scenes = new ArrayList<>();
        int faultAt = NONE;
        final boolean[][] never = new boolean[8][8];
        State state = new State();
        final State[] kept = new State[2];

        // ---- the story

        int feed(int n, long bytes) {
            if (n < 1 || n > 8) {
                return OUTSIDE;
            }
            if (text.length() + n > 400) {
                return FULL;
            }
            for (int i = 8 - n; i < 8; i++) {
                text.append((char) (bytes << (8 * i) >>> 56));
            }
            return text.length();
        }

        int story() {
            String all = text.toString();
            text = new StringBuilder();
            List<Scene> told = new ArrayList<>();
            int[] fault = parse(all, told);
            faultAt = fault[1];
            if (fault[0] != 0) {
                return -10 - fault[0];
            }
            scenes = told;
            int[] laws = state.laws;
            state = new State();
            state.laws = laws;
            kept[0] = null;
            kept[1] = null;
            return scenes.size();
        }

        /** The FAULT's number and byte. What may stand is told by the token ahead: 'W' word or ';', 'N' number. */
        private int[] parse(String all, List<Scene> told) {
            Matcher m = TOKEN.matcher(all);
            Scene now = null;
            int word = NONE;
            boolean wantsNumber = false;
            boolean mayComma = false;
            while (m.find()) {
                String token = m.group();
                char first = token.charAt(0);
                int[] one = {1, m.start()};
                if (wantsNumber) {
                    if (first < '0' || first > '9') {
                        return one;
                    }
                    int fault = numberFault(told, now, word, token);
                    if (fault != 0) {
                        return new int[] {fault, m.start()};
                    }
                    wantsNumber = false;
                    mayComma = word >= 2 && word <= 7;
                } else if (mayComma && first == ',') {
                    wantsNumber = true;
                } else if (now == null) {
                    if (!token.equals("scene")) {
                        return one;
                    }
                    if (told.size() == 10) {
                        return new int[] {5, m.start()};
                    }
                    now = new Scene();
                    word = 0;
                    wantsNumber = true;
                } else if (first == ';') {
                    told.add(now);
                    now = null;
                    mayComma = false;
                } else {
                    int next = WORDS.indexOf(token);
                    if (next <= word) {
                        return one;
                    }
                    word = next;
                    wantsNumber = true;
                    mayComma = false;
                }
            }
            return now == null ? new int[] {0, NONE} : new int[] {1, all.length()};
        }

        private int numberFault(List<Scene> told, Scene now, int word, String token) {
            if (token.length() > 2) {
                return 2;
            }
            int v = Integer.parseInt(token);
            int most = word == 0 ? 99 : word == 1 || word == 3 ? 9 : 7;
            if (v > most || word == 0 && v < 1) {
                return 2;
            }
            switch (word) {
                case 0: now.lines = v; return 0;
                case 1: now.joy = v; return 0;
                case 8:
                    for (Scene s : told) {
                        if (s.dies == v) {
                            return 7;
                        }
                    }
                    now.dies = v;
                    return 0;
                default: break;
            }
            TreeSet<Integer> list = now.lists.get(word - 2);
            if (list.contains(v)) {
                return 3;
            }
            if (word == 3 && v >= told.size()) {
                return 4;
            }
            for (Scene s : told) {
                if (word == 4 && s.opens().contains(v) || word == 5 && s.shuts().contains(v)) {
                    return 6;
                }
            }
            list.add(v);
            return 0;
        }

        int scene(int k, int what) {
            if (!isScene(k)) {
                return UNKNOWN;
            }
            if (what < 0 || what > 9) {
                return OUTSIDE;
            }
            Scene s = scenes.get(k);
            switch (what) {
                case 0: return s.lines;
                case 1: return s.joy;
                case 2: return bits(s.persons());
                case 8: return s.dies;
                case 9:
                    for (int n = 0; n < state.numbers.size(); n++) {
                        if (state.numbers.get(n).contains(k)) {
                            return n;
                        }
                    }
                    return NONE;
                default: return bits(s.lists.get(what - 2));
            }
        }

        int never(int f, int g, boolean is) {
            if (f < 0 || f > 7 || g < 0 || g > 7 || f == g) {
                return UNKNOWN;
            }
            int was = never[f][g] ? 1 : 0;
            never[f][g] = is;
            never[g][f] = is;
            return was;
        }

        int count(int what) {
            int n = 0;
            switch (what) {
                case 0: return scenes.size();
                case 1: return state.printed().size();
                case 2: return state.numbers.size();
                case 3: return state.draft.size();
                case 4:
                    for (Scene s : scenes) {
                        n += s.lines;
                    }
                    return n;
                case 5: return text.length();
                case 6:
                    for (int f = 0; f < 8; f++) {
                        for (int g = 0; g < f; g++) {
                            n += never[f][g] ? 1 : 0;
                        }
                    }
                    return n;
                case 7:
                    for (Scene s : scenes) {
                        n += s.opens().size();
                    }
                    return n;
                default: return OUTSIDE;
            }
        }

        // ---- orders

        private boolean isScene(int k) {
            return k >= 0 && k < scenes.size();
        }

        private boolean areScenes(int set) {
            return set >= 0 && set < 1 << scenes.size();
        }

        private static int bits(Iterable<Integer> all) {
            int set = 0;
            for (int k : all) {
                set |= 1 << k;
            }
            return set;
        }

        private static List<Integer> list(int set) {
            List<Integer> all = new ArrayList<>();
            for (int k = 0; k < 10; k++) {
                if ((set & 1 << k) != 0) {
                    all.add(k);
                }
            }
            return all;
        }

        private boolean mayCome(int k, List<Integer> behind) {
            Scene s = scenes.get(k);
            TreeSet<Integer> open = new TreeSet<>(s.opens());
            TreeSet<Integer> facts = new TreeSet<>();
            for (int b : behind) {
                open.addAll(scenes.get(b).opens());
                facts.addAll(scenes.get(b).tells());
                if (s.persons().contains(scenes.get(b).dies)) {
                    return false;
                }
            }
            if (behind.contains(k) || !behind.containsAll(s.after()) || !open.containsAll(s.shuts())
                    || !facts.containsAll(s.needs())) {
                return false;
            }
            facts.addAll(s.tells());
            for (int f : s.tells()) {
                for (int g : facts) {
                    if (never[f][g]) {
                        return false;
                    }
                }
            }
            return true;
        }

        /** All ORDERS of the SCENES that are left, behind those that are there already, the least ahead. */
        private void collect(List<Integer> there, List<Integer> left, List<List<Integer>> into, int skip) {
            if (left.isEmpty()) {
                into.add(new ArrayList<>(there.subList(skip, there.size())));
                return;
            }
            for (int k : new ArrayList<>(left)) {
                if (mayCome(k, there)) {
                    List<Integer> more = new ArrayList<>(there);
                    more.add(k);
                    List<Integer> less = new ArrayList<>(left);
                    less.remove(Integer.valueOf(k));
                    collect(more, less, into, skip);
                }
            }
        }

        private List<List<Integer>> ordersOf(int set, List<Integer> behind) {
            List<List<Integer>> all = new ArrayList<>();
            collect(new ArrayList<>(behind), list(set), all, behind.size());
            return all;
        }

        private List<List<Integer>> ordersOf(int set) {
            return ordersOf(set, new ArrayList<>());
        }

        private boolean isGood(int set) {
            return !ordersOf(set).isEmpty();
        }

        private TreeSet<Integer> openSet(List<Integer> behind) {
            TreeSet<Integer> open = new TreeSet<>();
            for (int k : behind) {
                open.addAll(scenes.get(k).opens());
            }
            for (int k : behind) {
                open.removeAll(scenes.get(k).shuts());
            }
            return open;
        }

        int may(int k, int set) {
            return !isScene(k) || !areScenes(set) ? UNKNOWN : mayCome(k, list(set)) ? 1 : 0;
        }

        int next(int set) {
            if (!areScenes(set)) {
                return UNKNOWN;
            }
            int next = 0;
            for (int k = 0; k < scenes.size(); k++) {
                next |= mayCome(k, list(set)) ? 1 << k : 0;
            }
            return next;
        }

        long orders(int set) {
            return areScenes(set) ? ordersOf(set).size() : UNKNOWN;
        }

        int order(int set, long i, int j) {
            if (!areScenes(set)) {
                return UNKNOWN;
            }
            if (i < 0) {
                return OUTSIDE;
            }
            List<List<Integer>> all = ordersOf(set);
            return i >= all.size() || j < 0 || j >= list(set).size() ? NONE : all.get((int) i).get(j);
        }

        int good() {
            int good = 0;
            for (int set = 0; set < 1 << scenes.size(); set++) {
                good += isGood(set) ? 1 : 0;
            }
            return good;
        }

        int place(int k, int what) {
            if (!isScene(k)) {
                return UNKNOWN;
            }
            if (what != 0 && what != 1) {
                return OUTSIDE;
            }
            TreeSet<Integer> places = new TreeSet<>();
            for (List<Integer> order : ordersOf((1 << scenes.size()) - 1)) {
                places.add(order.indexOf(k));
            }
            return places.isEmpty() ? NONE : what == 0 ? places.first() : places.last();
        }

        int open(int set) {
            return areScenes(set) ? bits(openSet(list(set))) : UNKNOWN;
        }

        int atOnce(int set) {
            if (!areScenes(set)) {
                return UNKNOWN;
            }
            TreeSet<Integer> all = new TreeSet<>();
            for (List<Integer> order : ordersOf(set)) {
                int most = 0;
                for (int n = 0; n <= order.size(); n++) {
                    most = Math.max(most, openSet(order.subList(0, n)).size());
                }
                all.add(most);
            }
            return all.isEmpty() ? NONE : all.first();
        }

        int along(int k) {
            if (!isScene(k)) {
                return UNKNOWN;
            }
            int along = (1 << scenes.size()) - 1;
            for (int set = 0; set < 1 << scenes.size(); set++) {
                if ((set & 1 << k) == 0 && isGood(set)) {
                    along &= ~set;
                }
            }
            return along;
        }

        private int linesIn(List<Integer> row) {
            int lines = 0;
            for (int k : row) {
                lines += scenes.get(k).lines;
            }
            return lines;
        }

        int shortest(int k, int what) {
            if (!isScene(k)) {
                return UNKNOWN;
            }
            if (what != 0 && what != 1) {
                return OUTSIDE;
            }
            int found = NONE;
            for (int set = (1 << scenes.size()) - 1; set > 0; set--) {
                if ((set & 1 << k) != 0 && isGood(set)
                        && (found == NONE || linesIn(list(set)) <= linesIn(list(found)))) {
                    found = set;
                }
            }
            return found == NONE || what == 0 ? found : linesIn(list(found));
        }

        // ---- numbers

        int law(int what, int v) {
            int[][] bounds = {{1, 99}, {1, 200}, {1, 9}, {0, 20}, {0, 20}, {0, 20}, {0, 20}, {0, 99}};
            if (what < 0 || what > 7 || v < bounds[what][0] || v > bounds[what][1]) {
                return OUTSIDE;
            }
            int[] then = state.laws.clone();
            then[what] = v;
            if (then[0] > then[1]) {
                return OUTSIDE;
            }
            int was = state.laws[what];
            state.laws = then;
            return was;
        }

        int add(int k) {
            if (!isScene(k)) {
                return UNKNOWN;
            }
            List<Integer> behind = state.printed();
            behind.addAll(state.draft);
            if (!mayCome(k, behind)) {
                return NOT;
            }
            if (state.draft.size() == 6) {
                return FULL;
            }
            state.draft.add(k);
            return state.draft.size();
        }

        int drop() {
            return state.draft.isEmpty() ? NONE : state.draft.remove(state.draft.size() - 1);
        }

        private TreeSet<Integer> personsIn(List<Integer> row) {
            TreeSet<Integer> persons = new TreeSet<>();
            for (int k : row) {
                persons.addAll(scenes.get(k).persons());
            }
            return persons;
        }

        private TreeSet<Integer> reminded(List<Integer> row, int n) {
            TreeSet<Integer> reminded = new TreeSet<>();
            for (int p : personsIn(row)) {
                int latest = NONE;
                for (int ahead = 0; ahead < n; ahead++) {
                    if (personsIn(state.numbers.get(ahead)).contains(p)) {
                        latest = ahead;
                    }
                }
                if (latest != NONE && latest < n - state.laws[2]) {
                    reminded.add(p);
                }
            }
            return reminded;
        }

        private int linesOf(List<Integer> row, int n) {
            return linesIn(row) + state.laws[3] * reminded(row, n).size();
        }

        int lines() {
            return linesOf(state.draft, state.numbers.size());
        }

        int print() {
            if (state.draft.isEmpty() || lines() < state.laws[0] || lines() > state.laws[1]) {
                return NOT;
            }
            if (state.numbers.size() == 12) {
                return FULL;
            }
            state.numbers.add(new ArrayList<>(state.draft));
            state.draft.clear();
            return state.numbers.size() - 1;
        }

        private List<Integer> upTo(int n) {
            List<Integer> all = new ArrayList<>();
            for (int i = 0; i <= n; i++) {
                all.addAll(state.numbers.get(i));
            }
            return all;
        }

        private int pull(int n) {
            List<Integer> row = state.numbers.get(n);
            TreeSet<Integer> open = openSet(upTo(n));
            int pull = 0;
            for (int k : row) {
                pull += scenes.get(k).joy;
            }
            pull += state.laws[5] * open.size();
            TreeSet<Integer> hooks = new TreeSet<>(scenes.get(row.get(row.size() - 1)).opens());
            hooks.retainAll(open);
            pull += hooks.isEmpty() ? 0 : state.laws[4];
            for (int q : open) {
                for (int m = 0; m < n; m++) {
                    for (int k : state.numbers.get(m)) {
                        if (scenes.get(k).opens().contains(q) && n - m > 3) {
                            pull -= state.laws[6];
                        }
                    }
                }
            }
            return pull;
        }

        private int readersBehind(int n) {
            long readers = 1000;
            for (int i = 0; i <= n; i++) {
                readers = readers * (100 - state.laws[7] + pull(i)) / 100;
                readers = readers < 0 ? 0 : readers > 1000000000 ? 1000000000 : readers;
            }
            return (int) readers;
        }

        int number(int n, int what) {
            if (n < 0 || n >= state.numbers.size()) {
                return UNKNOWN;
            }
            List<Integer> row = state.numbers.get(n);
            switch (what) {
                case 0: return row.size();
                case 1: return linesOf(row, n);
                case 2: return pull(n);
                case 3: return readersBehind(n);
                case 4: return bits(openSet(upTo(n)));
                case 5: return bits(reminded(row, n));
                default: return what < 0 || what > 11 ? OUTSIDE : what - 6 < row.size() ? row.get(what - 6) : NONE;
            }
        }

        int readers() {
            return readersBehind(state.numbers.size() - 1);
        }

        // ---- plans

        /** WORTH of a part, NONE if it can be none. */
        private int worth(int part, List<Integer> behind) {
            int lines = linesIn(list(part));
            if (part == 0 || list(part).size() > 6 || lines < state.laws[0] || lines > state.laws[1]) {
                return NONE;
            }
            List<List<Integer>> orders = ordersOf(part, behind);
            if (orders.isEmpty()) {
                return NONE;
            }
            List<Integer> then = new ArrayList<>(behind);
            then.addAll(list(part));
            TreeSet<Integer> open = openSet(then);
            int worth = state.laws[5] * open.size();
            for (int k : list(part)) {
                worth += scenes.get(k).joy;
            }
            for (List<Integer> order : orders) {
                TreeSet<Integer> hooks = new TreeSet<>(scenes.get(order.get(order.size() - 1)).opens());
                hooks.retainAll(open);
                if (!hooks.isEmpty()) {
                    return worth + state.laws[4];
                }
            }
            return worth;
        }

        /** THE BEST PLAN: its WORTH and then its parts; null: there is none. */
        private List<Integer> best(int n, int set, List<Integer> behind) {
            if (n == 0) {
                return set == 0 ? new ArrayList<>(List.of(0)) : null;
            }
            List<Integer> best = null;
            for (int part = 1; part <= set; part++) {
                if ((part & ~set) != 0) {
                    continue;
                }
                int worth = worth(part, behind);
                if (worth == NONE) {
                    continue;
                }
                List<Integer> then = new ArrayList<>(behind);
                then.addAll(list(part));
                List<Integer> rest = best(n - 1, set & ~part, then);
                if (rest != null && (best == null || rest.get(0) + worth > best.get(0))) {
                    best = rest;
                    best.set(0, rest.get(0) + worth);
                    best.add(1, part);
                }
            }
            return best;
        }

        int plan(int n, int set, int i) {
            if (!areScenes(set) || (set & bits(state.printed())) != 0) {
                return UNKNOWN;
            }
            if (n < 1 || n > 12) {
                return OUTSIDE;
            }
            List<Integer> best = best(n, set, state.printed());
            return best == null || i < NONE || i >= n ? NONE : best.get(i + 1);
        }

        int kind(int n, int persons, int what) {
            if (persons < 0 || persons > 255) {
                return UNKNOWN;
            }
            if (n < 1 || n > 12 || what < 0 || what > 1) {
                return OUTSIDE;
            }
            int found = NONE;
            int size = 0;
            int worth = 0;
            for (int set = 1; set < 1 << scenes.size(); set++) {
                boolean living = (set & bits(state.printed())) == 0;
                for (int k : list(set)) {
                    living &= scenes.get(k).dies == NONE || (persons & 1 << scenes.get(k).dies) == 0;
                }
                List<Integer> best = living && list(set).size() >= size ? best(n, set, state.printed()) : null;
                if (best != null && (list(set).size() > size || best.get(0) > worth)) {
                    found = set;
                    size = list(set).size();
                    worth = best.get(0);
                }
            }
            return found == NONE || what == 0 ? found : worth;
        }

        // ---- the book, pauses

        /** UNEVEN and then how many SCENES each CHAPTER has; null: it can't be parted so. */
        private List<Integer> chapters(int c, List<Integer> row) {
            if (c == 0) {
                return row.isEmpty() ? new ArrayList<>(List.of(0)) : null;
            }
            List<Integer> best = null;
            for (int n = 1; n <= row.size(); n++) {
                List<Integer> rest = chapters(c - 1, row.subList(n, row.size()));
                int lines = linesIn(row.subList(0, n));
                if (rest != null && (best == null || rest.get(0) + lines * lines < best.get(0))) {
                    best = rest;
                    best.set(0, rest.get(0) + lines * lines);
                    best.add(1, n);
                }
            }
            return best;
        }

        int chapter(int c, int i) {
            if (c < 1 || c > 8) {
                return OUTSIDE;
            }
            if (state.printed().size() < c) {
                return NOT;
            }
            return i < NONE || i >= c ? UNKNOWN : chapters(c, state.printed()).get(i + 1);
        }

        int keep(int i) {
            if (i < 0 || i > 1) {
                return UNKNOWN;
            }
            kept[i] = state.copy();
            return 1;
        }

        int goBack(int i) {
            if (i < 0 || i > 1) {
                return UNKNOWN;
            }
            if (kept[i] == null) {
                return NOT;
            }
            state = kept[i].copy();
            return 1;
        }
    }

    private static final int[] ODD = {Integer.MIN_VALUE, -1004, -2, -1, 8, 9, 10, 12, 13, 31, 32, 64, 1024, Integer.MAX_VALUE};

    private final Random random;
    private final StoryNumbers x = new StoryNumbers();
    private final Model model = new Model();
    private final StringBuilder told = new StringBuilder();
    private boolean isWrong = false;

    private StoryNumbersAgainstModel(int run) {
        random = new Random(run);
    }

    private int upTo(int most) {
        return random.nextInt(most + 1);
    }

    /** Mostly from least to most, now and then odd. */
    private int some(int least, int most) {
        return upTo(24) == 0 ? ODD[upTo(ODD.length - 1)] : least + upTo(Math.max(0, Math.min(1023, most - least)));
    }

    private int someScene() {
        return some(0, model.scenes.size() - 1);
    }

    private int someSet() {
        int all = (1 << model.scenes.size()) - 1;
        return upTo(3) == 0 ? all : some(0, all);
    }

    private int somePlanned() {
        int left = (1 << model.scenes.size()) - 1;
        left &= ~Model.bits(model.state.printed());
        return upTo(2) == 0 ? left : upTo(9) == 0 ? someSet() : left & random.nextInt();
    }

    private void hold(String call, long got, long want) {
        told.append(call).append(" = ").append(got).append('\n');
        if (got != want && !isWrong) {
            isWrong = true;
            System.out.println(told + "but due is " + want);
        }
    }

    private String number(int most) {
        return (upTo(9) == 0 ? "0" : "") + upTo(most);
    }

    private void appendList(StringBuilder text, String word, int most, int odds) {
        if (upTo(odds) != 0) {
            return;
        }
        text.append(word).append(upTo(3) == 0 ? "" : " ").append(number(most));
        while (upTo(2) == 0) {
            text.append(upTo(9) == 0 ? " , " : ",").append(number(most));
        }
        text.append(upTo(2) == 0 ? "" : " ");
    }

    /** A clause that is mostly sound: what the story opens, shuts and kills is drawn without putting it back. */
    private void appendClause(StringBuilder text, int k, List<List<Integer>> left) {
        text.append("scene ").append(1 + upTo(upTo(3) == 0 ? 98 : 12));
        if (upTo(1) == 0) {
            text.append(" joy ").append(upTo(9));
        }
        text.append(' ');
        String[] words = {"with", "after", "opens", "shuts", "tells", "needs", "dies"};
        for (int w = 0; w < words.length; w++) {
            List<Integer> from = new ArrayList<>();
            for (int v = 0; v < (w == 1 ? k : w < 1 ? 8 : 4); v++) {
                from.add(v);
            }
            if (w == 2 || w == 3 || w == 6) {
                from = left.get(w);
            }
            if (from.isEmpty() || upTo(w == 6 || w == 5 ? 4 : 2) != 0) {
                continue;
            }
            text.append(words[w]).append(' ').append(from.remove(upTo(from.size() - 1)));
            while (w != 6 && !from.isEmpty() && upTo(2) == 0) {
                text.append(',').append(from.remove(upTo(from.size() - 1)));
            }
            text.append(' ');
        }
        text.append(';');
    }

    private String soundText(int scenes) {
        List<List<Integer>> left = new ArrayList<>();
        for (int w = 0; w < 7; w++) {
            left.add(new ArrayList<>(List.of(0, 1, 2, 3, 4, 5, 6, 7)));
        }
        StringBuilder text = new StringBuilder();
        for (int k = 0; k < scenes; k++) {
            appendClause(text, k, left);
        }
        return text.toString();
    }

    private String wildText() {
        StringBuilder text = new StringBuilder();
        int scenes = upTo(12);
        for (int k = 0; k < scenes; k++) {
            text.append("scene").append(number(99)).append(' ');
            appendList(text, "joy", 11, 3);
            appendList(text, "with", 8, 3);
            appendList(text, "after", Math.max(0, k), 3);
            appendList(text, "opens", 8, 6);
            appendList(text, "shuts", 8, 6);
            appendList(text, "tells", 8, 3);
            appendList(text, "needs", 8, 3);
            appendList(text, "dies", 8, 8);
            text.append(';');
        }
        return text.toString();
    }

    private String spoilt(String text) {
        String signs = " ;,0123456789abcdefghijklmnopqrstuvwxyzABC\t\0\u007f\u00e9\u00ff-";
        StringBuilder spoilt = new StringBuilder(text);
        int times = 1 + upTo(2);
        for (int i = 0; i < times && spoilt.length() > 0; i++) {
            int at = upTo(spoilt.length() - 1);
            char sign = signs.charAt(upTo(signs.length() - 1));
            switch (upTo(3)) {
                case 0: spoilt.deleteCharAt(at); break;
                case 1: spoilt.insert(at, sign); break;
                case 2: spoilt.setCharAt(at, sign); break;
                default: spoilt.setLength(at); break;
            }
        }
        return spoilt.toString();
    }

    private void tell(String text) {
        int at = 0;
        while (at < text.length()) {
            int n = Math.min(1 + upTo(7), text.length() - at);
            long bytes = random.nextLong();
            for (int i = 0; i < n; i++) {
                bytes = bytes << 8 | text.charAt(at + i);
            }
            hold("feed(" + n + ", " + bytes + ")", x.feed(n, bytes), model.feed(n, bytes));
            at += n;
        }
        hold("count(5)", x.count(5), model.count(5));
        told.append("'").append(text).append("'\n");
        hold("story()", x.story(), model.story());
        hold("fault()", x.fault(), model.faultAt);
    }

    private void look() {
        int k = someScene();
        int what = some(0, 9);
        hold("scene(" + k + ", " + what + ")", x.scene(k, what), model.scene(k, what));
        int c = some(0, 7);
        hold("count(" + c + ")", x.count(c), model.count(c));
        int n = some(0, model.state.numbers.size() - 1);
        int of = some(0, 11);
        hold("number(" + n + ", " + of + ")", x.number(n, of), model.number(n, of));
        hold("readers()", x.readers(), model.readers());
        hold("lines()", x.lines(), model.lines());
    }

    private void callOrders(int which) {
        int set = someSet();
        int k = someScene();
        int what = some(0, 1);
        switch (which) {
            case 0: hold("may(" + k + ", " + set + ")", x.may(k, set), model.may(k, set)); break;
            case 1: hold("next(" + set + ")", x.next(set), model.next(set)); break;
            case 2: hold("orders(" + set + ")", x.orders(set), model.orders(set)); break;
            case 3:
                long i = upTo(9) == 0 ? random.nextLong() : upTo((int) Math.max(0, Math.min(900, model.orders(set))));
                int j = some(0, model.scenes.size());
                hold("order(" + set + ", " + i + ", " + j + ")", x.order(set, i, j), model.order(set, i, j));
                break;
            case 4: hold("good()", x.good(), model.good()); break;
            case 5: hold("place(" + k + ", " + what + ")", x.place(k, what), model.place(k, what)); break;
            case 6: hold("open(" + set + ")", x.open(set), model.open(set)); break;
            case 7: hold("atOnce(" + set + ")", x.atOnce(set), model.atOnce(set)); break;
            case 8: hold("along(" + k + ")", x.along(k), model.along(k)); break;
            default: hold("shortest(" + k + ", " + what + ")", x.shortest(k, what), model.shortest(k, what)); break;
        }
    }

    private void callNumbers(int which) {
        switch (which) {
            case 0:
                int what = some(0, 7);
                int v = upTo(3) == 0 ? some(0, 210) : some(0, 20);
                hold("law(" + what + ", " + v + ")", x.law(what, v), model.law(what, v));
                break;
            case 1: hold("drop()", x.drop(), model.drop()); break;
            case 2:
            case 3: hold("print()", x.print(), model.print()); break;
            case 4:
                int i = some(0, 1);
                hold("keep(" + i + ")", x.keep(i), model.keep(i));
                break;
            case 5:
                int b = some(0, 1);
                hold("goBack(" + b + ")", x.goBack(b), model.goBack(b));
                break;
            case 6:
                int f = some(0, 3);
                int g = some(0, 3);
                boolean is = upTo(2) == 0;
                hold("never(" + f + ", " + g + ", " + is + ")", x.never(f, g, is), model.never(f, g, is));
                break;
            default:
                int k = someScene();
                hold("add(" + k + ")", x.add(k), model.add(k));
                break;
        }
    }

    private void callPlans(int which) {
        int n = upTo(3) == 0 ? some(1, 12) : some(1, 4);
        switch (which) {
            case 0:
                int persons = some(0, 255) & (upTo(1) == 0 ? -1 : random.nextInt());
                int what = some(0, 1);
                hold("kind(" + n + ", " + persons + ", " + what + ")", x.kind(n, persons, what), model.kind(n, persons, what));
                break;
            case 1:
                int set = somePlanned();
                int i = some(-1, 3);
                hold("plan(" + n + ", " + set + ", " + i + ")", x.plan(n, set, i), model.plan(n, set, i));
                break;
            default:
                int c = some(1, Math.min(8, model.state.printed().size()));
                int at = some(-1, Math.min(8, c) - 1);
                hold("chapter(" + c + ", " + at + ")", x.chapter(c, at), model.chapter(c, at));
                break;
        }
    }

    private boolean run() {
        int scenes = upTo(60) == 0 ? 7 + upTo(1) : upTo(5) == 0 ? 6 : upTo(5);
        for (int call = 0; call < CALLS && !isWrong; call++) {
            if (call == 0 || upTo(60) == 0) {
                String text = soundText(scenes);
                tell(upTo(3) == 0 && call > 0 ? spoilt(text) : text);
            }
            int kind = upTo(9);
            if (kind < 3) {
                callOrders(upTo(9));
            } else if (kind < 8) {
                callNumbers(upTo(12));
                look();
            } else {
                callPlans(upTo(3));
            }
        }
        return !isWrong;
    }

    /** Stories too large for the model: the parts of a plan make up its SET, and what must agree does. */
    private boolean runLarge() {
        String text = soundText(9 + upTo(1));
        tell(text.substring(0, Math.min(400, text.length())));
        int all = (1 << model.scenes.size()) - 1;
        for (int call = 0; call < 40 && !isWrong; call++) {
            callNumbers(upTo(12));
            look();
            callPlans(2);
            int left = all & ~Model.bits(model.state.printed());
            int n = 1 + upTo(5);
            int set = upTo(2) == 0 ? x.kind(n, upTo(255), 0) : left & random.nextInt();
            int parts = 0;
            for (int i = 0; i < n && set != NONE && x.plan(n, set, NONE) != NONE; i++) {
                int part = x.plan(n, set, i);
                hold("part " + i + " of plan(" + n + ", " + set + ") meets others in", part & parts, 0);
                parts |= part;
            }
            hold("parts of plan(" + n + ", " + set + ")", parts, parts == 0 ? 0 : set);
            int k = someScene();
            if (k >= 0 && k < model.scenes.size()) {
                hold("place(" + k + ", 0) is none", x.place(k, 0) == NONE ? 1 : 0, x.orders(all) == 0 ? 1 : 0);
            }
            hold("order behind the last", x.order(all, Math.max(0, x.orders(all)), 0), NONE);
            hold("atOnce of a good SET", x.atOnce(left) == NONE ? 0 : 1, x.orders(left) > 0 ? 1 : 0);
        }
        return !isWrong;
    }

    private boolean runTexts() {
        for (int i = 0; i < 20 && !isWrong; i++) {
            String text = upTo(2) == 0 ? wildText() : upTo(3) == 0 ? soundText(upTo(10)) : spoilt(soundText(upTo(10)));
            tell(text.substring(0, Math.min(400, text.length())));
            for (int k = 0; k < 10; k++) {
                for (int what = 0; what < 10; what++) {
                    hold("scene(" + k + ", " + what + ")", x.scene(k, what), model.scene(k, what));
                }
            }
        }
        return !isWrong;
    }

    public static void main(String[] args) {
        int wrong = 0;
        int first = args.length > 0 ? Integer.parseInt(args[0]) : 0;
        int runs = args.length > 1 ? Integer.parseInt(args[1]) : RUNS;
        for (int run = first; run < first + runs && wrong < 3; run++) {
            wrong += new StoryNumbersAgainstModel(run).run() ? 0 : 1;
            wrong += new StoryNumbersAgainstModel(run).runTexts() ? 0 : 1;
            wrong += run % 10 != 0 || new StoryNumbersAgainstModel(run).runLarge() ? 0 : 1;
        }
        System.out.println("against the model: " + runs + " seeds, " + wrong + " wrong");
        if (wrong != 0) {
            System.exit(1);
        }
    }
}
