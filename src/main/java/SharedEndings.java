import java.util.Arrays;

/**
 * A store of words, held in a tree of their prefixes and in the smallest automaton that knows them.
 *
 * All rows are made with the object and used again, so that no call makes anything but the
 * exception that it may throw.
 */
public final class SharedEndings {
    public static final int NONE = -1;

    private static final int LETTERS = 8;
    private static final int MOST_LETTERS = 7;
    private static final int MOST_WORDS = 30;
    private static final int MOST_TEXT = 60;
    private static final int FARTHEST = 2;
    // A text split into words of one letter has a point behind each letter but the last.
    private static final int MOST_PAGE = 2 * MOST_TEXT - 1;
    // Behind each place of the text at most one word of each length can end.
    private static final int MOST_FOUND = MOST_TEXT * MOST_LETTERS;
    // The empty row, and at most one prefix for each letter of each word.
    private static final int MOST_PREFIXES = 1 + MOST_WORDS * MOST_LETTERS;

    private final Line text;
    private final Line page;
    private final Line spelled;
    private final Tree tree;
    private final Automaton automaton;
    private final Finds finds;
    private final Ruler ruler;
    private final Splitter splitter;

    public SharedEndings() {
        text = new Line(MOST_TEXT);
        page = new Line(MOST_PAGE);
        spelled = new Line(MOST_LETTERS);
        tree = new Tree();
        automaton = new Automaton();
        finds = new Finds();
        ruler = new Ruler();
        splitter = new Splitter();
    }

    public boolean type(char c) {
        return c >= 32 && c <= 126 && text.put(c);
    }

    public int wipe() {
        return text.empty();
    }

    public int add() throws IllegalStateException {
        if (tree.held() >= MOST_WORDS) {
            throw new IllegalStateException("30 words are held");
        }
        int answer = NONE;
        if (isWord(text)) {
            answer = tree.isHeld(tree.find(text)) ? 0 : 1;
        }
        if (answer == 1) {
            hold();
        }
        text.empty();
        return answer;
    }

    public boolean remove() {
        boolean was = tree.isHeld(tree.find(text));
        if (was) {
            drop();
        }
        text.empty();
        return was;
    }

    public int words() {
        return tree.held();
    }

    public int word(int i) throws IndexOutOfBoundsException {
        if (i < 0 || i >= tree.held()) {
            throw new IndexOutOfBoundsException("there is no such word");
        }
        tree.spell(i, page);
        return page.size();
    }

    public int rank() {
        int prefix = tree.find(text);
        text.empty();
        return tree.isHeld(prefix) ? tree.numberOf(prefix) : NONE;
    }

    public int starting() {
        int prefix = tree.find(text);
        text.empty();
        return prefix == NONE ? 0 : tree.heldFrom(prefix);
    }

    public int longest() {
        int best = NONE;
        int prefix = Tree.ROOT;
        for (int p = 0; p < text.size() && prefix != NONE; p++) {
            prefix = tree.step(prefix, text.at(p));
            if (tree.isHeld(prefix)) {
                best = tree.numberOf(prefix);
            }
        }
        text.empty();
        return best;
    }

    public int states() {
        return automaton.countStates();
    }

    public int edges() {
        return automaton.countEdges();
    }

    public int alike() {
        int prefix = tree.find(text);
        text.empty();
        return prefix == NONE ? NONE : automaton.countAlike(prefix);
    }

    public int near(int most) throws IllegalArgumentException {
        if (most < 0 || most > FARTHEST) {
            throw new IllegalArgumentException("most is not 0 .. 2");
        }
        finds.empty();
        for (int i = 0; i < tree.held(); i++) {
            tree.spell(i, spelled);
            int distance = ruler.distance(spelled, text);
            if (distance <= most) {
                finds.put(i, distance);
            }
        }
        text.empty();
        return finds.size();
    }

    public int scan() {
        finds.empty();
        int prefix = Tree.ROOT;
        for (int p = 0; p < text.size(); p++) {
            prefix = tree.onward(prefix, text.at(p));
            findEnding(prefix, p + 1);
        }
        text.empty();
        return finds.size();
    }

    public int found(int k, int what) throws IndexOutOfBoundsException, IllegalArgumentException {
        if (k < 0 || k >= finds.size()) {
            throw new IndexOutOfBoundsException("there is no such one");
        }
        if (what != 0 && what != 1) {
            throw new IllegalArgumentException("what is not 0 or 1");
        }
        return what == 0 ? finds.number(k) : finds.measure(k);
    }

    public long splits() {
        long answer = splitter.count(text, tree);
        text.empty();
        return answer;
    }

    public int split() {
        int answer = splitter.choose(text, tree);
        if (answer != NONE) {
            splitter.write(text, page);
        }
        text.empty();
        return answer;
    }

    public int length() {
        return page.size();
    }

    public char charAt(int p) {
        return page.at(p);
    }

    private static int letterOf(char c) {
        return c >= 'a' && c < 'a' + LETTERS ? c - 'a' : NONE;
    }

    private static boolean isWord(Line row) {
        for (int p = 0; p < row.size(); p++) {
            if (letterOf(row.at(p)) == NONE) {
                return false;
            }
        }
        return row.size() >= 1 && row.size() <= MOST_LETTERS;
    }

    // Only the prefixes of a word that comes or goes can get other endings, so only they change states.
    private void hold() {
        automaton.release(text, tree);
        tree.grow(text);
        settle();
    }

    private void drop() {
        automaton.release(text, tree);
        tree.cut(text);
        settle();
    }

    private void settle() {
        automaton.receive(text, tree);
        tree.relink();
        finds.empty();
    }

    private void findEnding(int prefix, int behind) {
        int at = tree.isHeld(prefix) ? prefix : tree.shorterWord(prefix);
        for (int n = 0; n < MOST_LETTERS && at != NONE; n++) {
            finds.put(tree.numberOf(at), behind);
            at = tree.shorterWord(at);
        }
    }

    /** A row of characters with a most, for the text, the page and a word that is looked at. */
    private static final class Line {
        private final char[] characters;
        private int size;

        Line(int most) {
            characters = new char[most];
        }

        boolean put(char c) {
            if (size >= characters.length) {
                return false;
            }
            characters[size] = c;
            size++;
            return true;
        }

        int empty() {
            int had = size;
            size = 0;
            return had;
        }

        int size() {
            return size;
        }

        char at(int p) {
            return p >= 0 && p < size ? characters[p] : ' ';
        }
    }

    /**
     * The prefixes of the held words, each a number: the place of its cell in every row.
     *
     * A cell whose prefix has no held word behind it is free: it has no children and is no word.
     */
    private static final class Tree {
        private static final int ROOT = 0;

        private final int[] children;
        private final boolean[] whole;
        private final int[] heldFrom;
        private final int[] heldBefore;
        private final int[] links;
        private final int[] shorterWords;
        private final int[] order;

        Tree() {
            children = new int[MOST_PREFIXES * LETTERS];
            whole = new boolean[MOST_PREFIXES];
            heldFrom = new int[MOST_PREFIXES];
            heldBefore = new int[MOST_PREFIXES];
            links = new int[MOST_PREFIXES];
            shorterWords = new int[MOST_PREFIXES];
            order = new int[MOST_PREFIXES];
            Arrays.fill(children, NONE);
            Arrays.fill(shorterWords, NONE);
        }

        int held() {
            return heldFrom[ROOT];
        }

        int heldFrom(int prefix) {
            return heldFrom[prefix];
        }

        boolean isHeld(int prefix) {
            return prefix != NONE && whole[prefix];
        }

        // The words before all that begin with the prefix are those before the prefix itself.
        int numberOf(int prefix) {
            return heldBefore[prefix];
        }

        int shorterWord(int prefix) {
            return shorterWords[prefix];
        }

        int child(int prefix, int letter) {
            return children[prefix * LETTERS + letter];
        }

        int step(int prefix, char c) {
            int letter = letterOf(c);
            return prefix == NONE || letter == NONE ? NONE : child(prefix, letter);
        }

        int find(Line row) {
            int prefix = ROOT;
            for (int p = 0; p < row.size() && prefix != NONE; p++) {
                prefix = step(prefix, row.at(p));
            }
            return prefix;
        }

        /** Puts the prefixes of a row that stand in the tree into the path, shortest first: how many. */
        int trace(Line row, int[] path) {
            int count = 0;
            int prefix = ROOT;
            for (int p = 0; p < path.length && prefix != NONE; p++) {
                path[p] = prefix;
                count++;
                prefix = p < row.size() ? step(prefix, row.at(p)) : NONE;
            }
            return count;
        }

        void grow(Line word) {
            int prefix = ROOT;
            heldFrom[ROOT]++;
            for (int p = 0; p < word.size(); p++) {
                int cell = prefix * LETTERS + letterOf(word.at(p));
                if (children[cell] == NONE) {
                    children[cell] = freeCell();
                }
                prefix = children[cell];
                heldFrom[prefix]++;
            }
            whole[prefix] = true;
        }

        void cut(Line word) {
            int prefix = ROOT;
            heldFrom[ROOT]--;
            for (int p = 0; p < word.size(); p++) {
                int cell = prefix * LETTERS + letterOf(word.at(p));
                prefix = children[cell];
                heldFrom[prefix]--;
                if (heldFrom[prefix] == 0) {
                    children[cell] = NONE;
                }
            }
            whole[prefix] = false;
        }

        // There are cells for the prefixes of as many words as may be held, so the last is free if no other is.
        private int freeCell() {
            int cell = ROOT + 1;
            while (cell < MOST_PREFIXES - 1 && heldFrom[cell] != 0) {
                cell++;
            }
            return cell;
        }

        // Shorter prefixes come first, since a link always leads to a shorter one.
        void relink() {
            int known = 1;
            order[0] = ROOT;
            for (int n = 0; n < known && n < MOST_PREFIXES; n++) {
                known = linkChildren(order[n], known);
            }
        }

        private int linkChildren(int prefix, int known) {
            int before = heldBefore[prefix] + (whole[prefix] ? 1 : 0);
            int count = known;
            for (int letter = 0; letter < LETTERS && count < MOST_PREFIXES; letter++) {
                int child = child(prefix, letter);
                if (child != NONE) {
                    heldBefore[child] = before;
                    before += heldFrom[child];
                    link(child, prefix == ROOT ? ROOT : follow(links[prefix], letter));
                    order[count] = child;
                    count++;
                }
            }
            return count;
        }

        private void link(int prefix, int shorter) {
            links[prefix] = shorter;
            shorterWords[prefix] = whole[shorter] ? shorter : shorterWords[shorter];
        }

        private int follow(int prefix, int letter) {
            int at = prefix;
            for (int n = 0; n < MOST_LETTERS && at != ROOT && child(at, letter) == NONE; n++) {
                at = links[at];
            }
            int child = child(at, letter);
            return child == NONE ? ROOT : child;
        }

        /** The longest prefix that ends a text which ended in the given prefix before c came behind it. */
        int onward(int prefix, char c) {
            int letter = letterOf(c);
            return letter == NONE ? ROOT : follow(prefix, letter);
        }

        void spell(int number, Line row) {
            row.empty();
            int prefix = ROOT;
            int letter = letterTowards(number, ROOT);
            for (int p = 0; p < MOST_LETTERS && letter != NONE; p++) {
                row.put((char) ('a' + letter));
                prefix = child(prefix, letter);
                letter = letterTowards(number, prefix);
            }
        }

        private int letterTowards(int number, int prefix) {
            for (int letter = 0; letter < LETTERS; letter++) {
                int child = child(prefix, letter);
                if (child != NONE && number >= heldBefore[child]
                        && number < heldBefore[child] + heldFrom[child]) {
                    return letter;
                }
            }
            return NONE;
        }
    }

    /** The states, one for each class of prefixes that are alike; a state without members is free. */
    private static final class Automaton {
        private final int[] stateOf;
        private final int[] members;
        private final boolean[] accepting;
        private final int[] targets;
        private final int[] wanted;
        private final int[] path;

        Automaton() {
            stateOf = new int[MOST_PREFIXES];
            members = new int[MOST_PREFIXES];
            accepting = new boolean[MOST_PREFIXES];
            targets = new int[MOST_PREFIXES * LETTERS];
            wanted = new int[LETTERS];
            path = new int[MOST_LETTERS + 1];
            Arrays.fill(targets, NONE);
            // The empty row is a prefix even when no word is held.
            members[stateOf[Tree.ROOT]] = 1;
        }

        int countStates() {
            int count = 0;
            for (int state = 0; state < MOST_PREFIXES; state++) {
                if (members[state] != 0) {
                    count++;
                }
            }
            return count;
        }

        int countEdges() {
            int count = 0;
            for (int state = 0; state < MOST_PREFIXES; state++) {
                if (members[state] != 0) {
                    count += countEdgesFrom(state);
                }
            }
            return count;
        }

        private int countEdgesFrom(int state) {
            int count = 0;
            for (int letter = 0; letter < LETTERS; letter++) {
                if (targets[state * LETTERS + letter] != NONE) {
                    count++;
                }
            }
            return count;
        }

        int countAlike(int prefix) {
            return members[stateOf[prefix]];
        }

        // A state that keeps a member keeps its targets too: a member off the path has all children off it.
        void release(Line word, Tree tree) {
            int count = tree.trace(word, path);
            for (int n = 0; n < count; n++) {
                members[stateOf[path[n]]]--;
            }
        }

        // Longest first, since the state of a prefix is told by the states of those one letter longer.
        void receive(Line word, Tree tree) {
            int count = tree.trace(word, path);
            for (int n = count - 1; n >= 0; n--) {
                join(path[n], tree);
            }
        }

        private void join(int prefix, Tree tree) {
            for (int letter = 0; letter < LETTERS; letter++) {
                int child = tree.child(prefix, letter);
                wanted[letter] = child == NONE ? NONE : stateOf[child];
            }
            boolean accepts = tree.isHeld(prefix);
            int state = wantedState(accepts);
            if (state == NONE) {
                state = newState(accepts);
            }
            members[state]++;
            stateOf[prefix] = state;
        }

        private int wantedState(boolean accepts) {
            for (int state = 0; state < MOST_PREFIXES; state++) {
                if (members[state] != 0 && accepting[state] == accepts && hasWantedTargets(state)) {
                    return state;
                }
            }
            return NONE;
        }

        private boolean hasWantedTargets(int state) {
            for (int letter = 0; letter < LETTERS; letter++) {
                if (targets[state * LETTERS + letter] != wanted[letter]) {
                    return false;
                }
            }
            return true;
        }

        // There are as many states as prefixes may stand, so the last is free if no other is.
        private int newState(boolean accepts) {
            int state = 0;
            while (state < MOST_PREFIXES - 1 && members[state] != 0) {
                state++;
            }
            accepting[state] = accepts;
            System.arraycopy(wanted, 0, targets, state * LETTERS, LETTERS);
            return state;
        }
    }

    /** FOUND: words' numbers, each with the place behind the word or with its distance. */
    private static final class Finds {
        private final int[] numbers;
        private final int[] measures;
        private int size;

        Finds() {
            numbers = new int[MOST_FOUND];
            measures = new int[MOST_FOUND];
        }

        void empty() {
            size = 0;
        }

        void put(int number, int measure) {
            if (size < MOST_FOUND) {
                numbers[size] = number;
                measures[size] = measure;
                size++;
            }
        }

        int size() {
            return size;
        }

        int number(int k) {
            return numbers[k];
        }

        int measure(int k) {
            return measures[k];
        }
    }

    /** Measures how far a row is from a word. */
    private static final class Ruler {
        // For each beginning of the word: its distance from the part of the row that has been read.
        private final int[] distances;

        Ruler() {
            distances = new int[MOST_LETTERS + 1];
        }

        int distance(Line word, Line row) {
            for (int n = 0; n <= word.size(); n++) {
                distances[n] = n;
            }
            for (int p = 0; p < row.size(); p++) {
                read(word, row.at(p));
            }
            return distances[word.size()];
        }

        private void read(Line word, char c) {
            int diagonal = distances[0];
            distances[0]++;
            for (int n = 1; n <= word.size(); n++) {
                int kept = word.at(n - 1) == c ? diagonal : diagonal + 1;
                diagonal = distances[n];
                distances[n] = Math.min(kept, 1 + Math.min(diagonal, distances[n - 1]));
            }
        }
    }

    /** Splits a text; its rows tell, for each place, of the part of the text from there to the end. */
    private static final class Splitter {
        private final long[] ways;
        private final int[] fewest;
        private final int[] firstEnds;

        Splitter() {
            ways = new long[MOST_TEXT + 1];
            fewest = new int[MOST_TEXT + 1];
            firstEnds = new int[MOST_TEXT + 1];
        }

        long count(Line text, Tree tree) {
            ways[text.size()] = 1;
            for (int start = text.size() - 1; start >= 0; start--) {
                countFrom(start, text, tree);
            }
            return ways[0];
        }

        private void countFrom(int start, Line text, Tree tree) {
            ways[start] = 0;
            int prefix = Tree.ROOT;
            for (int p = start; p < text.size() && prefix != NONE; p++) {
                prefix = tree.step(prefix, text.at(p));
                if (tree.isHeld(prefix)) {
                    ways[start] += ways[p + 1];
                }
            }
        }

        /** Chooses the split with the fewest words: how many, NONE if there is no split. */
        int choose(Line text, Tree tree) {
            fewest[text.size()] = 0;
            for (int start = text.size() - 1; start >= 0; start--) {
                chooseFrom(start, text, tree);
            }
            return fewest[0];
        }

        private void chooseFrom(int start, Line text, Tree tree) {
            fewest[start] = NONE;
            int prefix = Tree.ROOT;
            for (int p = start; p < text.size() && prefix != NONE; p++) {
                prefix = tree.step(prefix, text.at(p));
                if (tree.isHeld(prefix) && isNoWorse(fewest[p + 1], fewest[start])) {
                    fewest[start] = fewest[p + 1] + 1;
                    firstEnds[start] = p + 1;
                }
            }
        }

        // As good is enough, since of the first words that do as well the longest, tried last, is due.
        private static boolean isNoWorse(int rest, int best) {
            return rest != NONE && (best == NONE || rest + 1 <= best);
        }

        void write(Line text, Line page) {
            page.empty();
            int end = firstEnds[0];
            for (int p = 0; p < text.size(); p++) {
                if (p == end) {
                    page.put('.');
                    end = firstEnds[p];
                }
                page.put(text.at(p));
            }
        }
    }
}
