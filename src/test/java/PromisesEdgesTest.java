/** The sentences of the promises that name an edge, each by a test of its own. */
public final class PromisesEdgesTest {
    private static final Class<IllegalStateException> STATE = IllegalStateException.class;
    private static final Class<IllegalArgumentException> ARGUMENT = IllegalArgumentException.class;
    private static final Class<IndexOutOfBoundsException> INDEX = IndexOutOfBoundsException.class;
    private static final String[] NO_WORDS = {"", "i", "`", "A", "H", " ", "a ", " a", "a.b", "abcdefga", Samples.SIXTY};
    private static final Checks CHECKS = new Checks();

    private PromisesEdgesTest() {
    }

    public static void main(String[] args) {
        CHECKS.sentence("1: no words", PromisesEdgesTest::newWords);
        CHECKS.sentence("1: no text", PromisesEdgesTest::newText);
        CHECKS.sentence("1: nothing found", PromisesEdgesTest::newFound);
        CHECKS.sentence("1: the page is empty", PromisesEdgesTest::newPage);
        CHECKS.sentence("2: false when c is not 32 .. 126", PromisesEdgesTest::typeOfWrongCodes);
        CHECKS.sentence("2: false when there are 60", PromisesEdgesTest::typeWhenFull);
        CHECKS.sentence("3: the text is empty; how many characters it had", PromisesEdgesTest::wipe);
        CHECKS.sentence("4: 1, held from now on", PromisesEdgesTest::addOfNew);
        CHECKS.sentence("4: 0 if it was held", PromisesEdgesTest::addOfHeld);
        CHECKS.sentence("4: NONE if it is no word", PromisesEdgesTest::addOfNoWord);
        CHECKS.sentence("4: IllegalState: 30 words are held (whatever the text is)", PromisesEdgesTest::addWhenFull);
        CHECKS.sentence("5: the text is not held any more: whether it was", PromisesEdgesTest::remove);
        CHECKS.sentence("5: removed to the last word", PromisesEdgesTest::removeAll);
        CHECKS.sentence("6: how many words are held", PromisesEdgesTest::words);
        CHECKS.sentence("7: instead of what was there", PromisesEdgesTest::wordInstead);
        CHECKS.sentence("7: how many letters", PromisesEdgesTest::wordLetters);
        CHECKS.sentence("7: IndexOutOfBounds: there is no such word", PromisesEdgesTest::wordOfNone);
        CHECKS.sentence("8: NONE if it is not held", PromisesEdgesTest::rankOfNone);
        CHECKS.sentence("9: how many held words begin with the text", PromisesEdgesTest::starting);
        CHECKS.sentence("10: the longest held word", PromisesEdgesTest::longest);
        CHECKS.sentence("10: NONE if there is none", PromisesEdgesTest::longestOfNone);
        CHECKS.sentence("11: states when no word is held", PromisesEdgesTest::statesOfNone);
        CHECKS.sentence("11: states when 30 are held", PromisesEdgesTest::statesOfThirty);
        CHECKS.sentence("12: edges when no word is held", PromisesEdgesTest::edgesOfNone);
        CHECKS.sentence("12: edges when 30 are held", PromisesEdgesTest::edgesOfThirty);
        CHECKS.sentence("11 and 12: from none to 30 and back", PromisesEdgesTest::upAndDown);
        CHECKS.sentence("13: it itself among them", PromisesEdgesTest::alikeToItself);
        CHECKS.sentence("13: NONE if it is no prefix", PromisesEdgesTest::alikeOfNone);
        CHECKS.sentence("14: at most most, in their order: how many", PromisesEdgesTest::near);
        CHECKS.sentence("14: IllegalArgument: most is not 0 .. 2", PromisesEdgesTest::nearOfWrong);
        CHECKS.sentence("15: all places in the text", PromisesEdgesTest::scan);
        CHECKS.sentence("15: all places, behind a row that breaks off", PromisesEdgesTest::scanBehindBrokenRows);
        CHECKS.sentence("15: of several with the same place the longest word first", PromisesEdgesTest::scanOrder);
        CHECKS.sentence("16: IndexOutOfBounds: there is no such one", PromisesEdgesTest::foundOfNone);
        CHECKS.sentence("16: IllegalArgument: what is not 0 or 1", PromisesEdgesTest::foundOfWrong);
        CHECKS.sentence("16: the place behind it (scan), or the distance (near)", PromisesEdgesTest::foundWhat);
        CHECKS.sentence("17: splits of the empty text", PromisesEdgesTest::splitsOfEmpty);
        CHECKS.sentence("17: splits of a text that has none", PromisesEdgesTest::splitsOfNone);
        CHECKS.sentence("17: splits of 60 characters, as many as can be", PromisesEdgesTest::splitsOfSixty);
        CHECKS.sentence("18: the fewest words", PromisesEdgesTest::splitFewest);
        CHECKS.sentence("18: whose first word is longest, of several such whose second word is", PromisesEdgesTest::splitLongest);
        CHECKS.sentence("18: a point between two, instead of what was there", PromisesEdgesTest::splitWrites);
        CHECKS.sentence("18: NONE if there is no split (the page stays)", PromisesEdgesTest::splitOfNone);
        CHECKS.sentence("19: how many characters the page has", PromisesEdgesTest::length);
        CHECKS.sentence("20: a space when there is none", PromisesEdgesTest::charAtOfNone);
        CHECKS.end();
    }

    private static void newWords() {
        CHECKS.due("words", new SharedEndings().words(), 0);
        CHECKS.due("words that begin with the empty row", new SharedEndings().starting(), 0);
        CHECKS.dueThrow("word 0", INDEX, () -> new SharedEndings().word(0));
    }

    private static void newText() {
        CHECKS.due("wipe", new SharedEndings().wipe(), 0);
        CHECKS.due("add of no text", new SharedEndings().add(), -1);
        CHECKS.due("the first character is the first", Store.with("a").rank("a"), 0);
    }

    private static void newFound() {
        CHECKS.dueThrow("found(0, 0)", INDEX, () -> new SharedEndings().found(0, 0));
        CHECKS.dueThrow("found(0, 1)", INDEX, () -> new SharedEndings().found(0, 1));
    }

    private static void newPage() {
        SharedEndings x = new SharedEndings();
        CHECKS.due("length", x.length(), 0);
        for (int p = -1; p <= 120; p++) {
            CHECKS.due("charAt " + p, x.charAt(p), ' ');
        }
    }

    private static void typeOfWrongCodes() {
        for (int c = 0; c <= 65535; c++) {
            Store s = new Store().type("ab");
            boolean isRight = c >= 32 && c <= 126;
            CHECKS.due("type of code " + c, s.x.type((char) c), isRight);
            CHECKS.due("characters after code " + c, s.x.wipe(), isRight ? 3 : 2);
        }
    }

    private static void typeWhenFull() {
        Store s = Store.with("b");
        for (int n = 1; n <= 60; n++) {
            CHECKS.due("character " + n, s.x.type(n == 60 ? 'b' : '~'), true);
        }
        char[] more = {'a', 'b', ' ', '~', 31, 127};
        for (char c : more) {
            CHECKS.due("character 61, code " + (int) c, s.x.type(c), false);
        }
        CHECKS.due("the sixty stay", s.x.scan(), 1);
        CHECKS.due("as they were", s.found(), "0/60");
        CHECKS.due("room again", s.x.type('b'), true);
        CHECKS.due("for a new text", s.x.rank(), 0);
    }

    private static void wipe() {
        for (int size = 0; size <= 60; size++) {
            Store s = Store.with("a").type("?".repeat(size));
            CHECKS.due("wipe of " + size, s.x.wipe(), size);
            CHECKS.due("wipe again", s.x.wipe(), 0);
            CHECKS.due("nothing is left", s.rank("a"), 0);
        }
        Store s = new Store().type(Samples.SIXTY);
        s.x.type('a');
        CHECKS.due("a refused character does not count", s.x.wipe(), 60);
    }

    private static void addOfNew() {
        String[] words = {"a", "h", "ha", "aaaaaaa", "hhhhhhh", "abcdefg", "ab"};
        Store s = new Store();
        for (int n = 0; n < words.length; n++) {
            CHECKS.due("before, rank of " + words[n], s.rank(words[n]), -1);
            CHECKS.due("add of " + words[n], s.add(words[n]), 1);
            CHECKS.due("after, rank of " + words[n], s.rank(words[n]) >= 0, true);
            CHECKS.due("words", s.x.words(), n + 1);
        }
    }

    private static void addOfHeld() {
        Store s = Store.with("a", "abcdefg", "hhhhhhh");
        String[] held = {"a", "abcdefg", "hhhhhhh"};
        for (String word : held) {
            CHECKS.due("add of " + word, s.add(word), 0);
        }
        CHECKS.due("words", s.x.words(), 3);
        CHECKS.due("a prefix is not held", s.add("ab"), 1);
        CHECKS.due("now it is", s.add("ab"), 0);
        s.remove("ab");
        CHECKS.due("removed, it is not", s.add("ab"), 1);
        Store nearlyFull = Samples.full();
        nearlyFull.remove("aa");
        CHECKS.due("with 29 words", nearlyFull.add("ef"), 0);
    }

    private static void addOfNoWord() {
        Store s = Store.with("ab");
        for (String text : NO_WORDS) {
            CHECKS.due("add of " + text, s.add(text), -1);
            CHECKS.due("words after " + text, s.x.words(), 1);
        }
        CHECKS.due("states", s.x.states(), 3);
        CHECKS.due("a letter behind a held word", s.add("abi"), -1);
        Store nearlyFull = Samples.full();
        nearlyFull.remove("aa");
        CHECKS.due("with 29 words", nearlyFull.add("i"), -1);
    }

    private static void addWhenFull() {
        String[] texts = {"h", "aa", "ef", "a", "aaa", "abcdefg", "", "i", "?", "abcdefga", Samples.SIXTY};
        for (String text : texts) {
            Store s = Samples.full().type(text);
            CHECKS.dueThrow("add of " + text, STATE, s.x::add);
            CHECKS.dueThrow("add of " + text + " again", STATE, s.x::add);
            CHECKS.due("the text stays", s.x.wipe(), text.length());
            CHECKS.due("words", s.x.words(), 30);
            CHECKS.due("states", s.x.states(), 3);
        }
        Store s = Samples.full().type("h");
        CHECKS.dueThrow("add of h", STATE, s.x::add);
        s.x.wipe();
        s.remove("aa");
        CHECKS.due("with 29 it is added", s.add("h"), 1);
        CHECKS.dueThrow("with 30 again not", STATE, () -> s.add("aa"));
    }

    private static void remove() {
        Store s = Store.with("a", "abc", "abcdefg", "h");
        for (String text : NO_WORDS) {
            CHECKS.due("remove of " + text, s.remove(text), false);
        }
        String[] notHeld = {"ab", "abcd", "abcdef", "b", "aa", "hh", "g"};
        for (String text : notHeld) {
            CHECKS.due("remove of " + text, s.remove(text), false);
        }
        CHECKS.due("nothing is gone", s.x.words(), 4);
        CHECKS.due("one between", s.remove("abc"), true);
        CHECKS.due("the same again", s.remove("abc"), false);
        CHECKS.due("the shorter one stays", s.rank("a"), 0);
        CHECKS.due("the longer one stays", s.rank("abcdefg"), 1);
        CHECKS.due("the longest", s.remove("abcdefg"), true);
        CHECKS.due("its prefixes are gone", s.alike("ab"), -1);
        CHECKS.due("a is alike to h again", s.alike("a"), 2);
    }

    private static void removeAll() {
        CHECKS.due("none is held", new Store().remove("a"), false);
        CHECKS.due("none is held, the empty row", new Store().remove(""), false);
        Store s = Samples.full();
        for (char first = 'a'; first <= 'e'; first++) {
            for (char second = 'a'; second <= 'f'; second++) {
                CHECKS.due("remove of " + first + second, s.remove("" + first + second), true);
            }
        }
        CHECKS.due("words", s.x.words(), 0);
        CHECKS.due("once more", s.remove("aa"), false);
        CHECKS.due("states", s.x.states(), 1);
        CHECKS.due("edges", s.x.edges(), 0);
        CHECKS.due("scan", s.scan("aabbccddeeff"), 0);
        CHECKS.due("add again", s.add("aa"), 1);
        CHECKS.due("word again", s.word(0), "2:aa");
    }

    private static void words() {
        Store s = new Store();
        for (int n = 0; n < 30; n++) {
            CHECKS.due("words", s.x.words(), n);
            s.add(Samples.longWord(n));
        }
        CHECKS.due("thirty", s.x.words(), 30);
        CHECKS.dueThrow("add", STATE, s.x::add);
        CHECKS.due("still thirty", s.x.words(), 30);
        s.remove(Samples.longWord(0));
        CHECKS.due("one less", s.x.words(), 29);
    }

    private static void wordInstead() {
        Store s = Store.with("a", "abcdefg", "b");
        CHECKS.due("the longest page", s.split("b".repeat(60)), "60:" + "b.".repeat(59) + "b");
        CHECKS.due("a long word instead", s.word(1), "7:abcdefg");
        CHECKS.due("a short one instead", s.word(0), "1:a");
        for (int p = 1; p < 120; p++) {
            CHECKS.due("nothing left at " + p, s.x.charAt(p), ' ');
        }
        CHECKS.due("the same again", s.word(0), "1:a");
        s.remove("a");
        CHECKS.due("the page outlives the word", s.page(), "a");
    }

    private static void wordLetters() {
        Store s = Store.with(Samples.CHAIN);
        for (int i = 0; i < 7; i++) {
            CHECKS.due("word " + i, s.word(i), i + 1 + ":" + Samples.CHAIN[i]);
        }
        Store full = Samples.full();
        CHECKS.due("the first of thirty", full.word(0), "2:aa");
        CHECKS.due("the last of thirty", full.word(29), "2:ef");
    }

    private static void wordOfNone() {
        int[] wrong = {-1, -2, 30, 31, Integer.MIN_VALUE, Integer.MAX_VALUE};
        Store full = Samples.full();
        full.x.word(29);
        for (int i : wrong) {
            CHECKS.dueThrow("word " + i + " of none", INDEX, () -> new SharedEndings().word(i));
            CHECKS.dueThrow("word " + i + " of one", INDEX, () -> Store.with("a").x.word(i));
            CHECKS.dueThrow("word " + i + " of thirty", INDEX, () -> full.x.word(i));
        }
        CHECKS.due("the page stays", full.page(), "ef");
        full.remove("aa");
        CHECKS.dueThrow("word 29 of 29", INDEX, () -> full.x.word(29));
        CHECKS.due("word 28 of 29", full.word(28), "2:ef");
        CHECKS.dueThrow("word 0 of none", INDEX, () -> new SharedEndings().word(0));
        CHECKS.dueThrow("word 1 of one", INDEX, () -> Store.with("a").x.word(1));
    }

    private static void rankOfNone() {
        Store s = Store.with("ab", "abcdefg", "h");
        for (String text : NO_WORDS) {
            CHECKS.due("rank of " + text, s.rank(text), -1);
        }
        String[] notHeld = {"a", "abc", "abcdef", "abcdefgh", "b", "ha", "hh", "g"};
        for (String text : notHeld) {
            CHECKS.due("rank of " + text, s.rank(text), -1);
        }
        CHECKS.due("the first", s.rank("ab"), 0);
        CHECKS.due("the last", s.rank("h"), 2);
        s.remove("ab");
        CHECKS.due("removed", s.rank("ab"), -1);
        CHECKS.due("of no words", new Store().rank("a"), -1);
        CHECKS.due("the last of thirty", Samples.full().rank("ef"), 29);
    }

    private static void starting() {
        CHECKS.due("no words, the empty row", new Store().starting(""), 0);
        CHECKS.due("no words, a", new Store().starting("a"), 0);
        Store full = Samples.full();
        CHECKS.due("thirty, the empty row", full.starting(""), 30);
        CHECKS.due("thirty, a", full.starting("a"), 6);
        CHECKS.due("thirty, ef", full.starting("ef"), 1);
        CHECKS.due("thirty, f", full.starting("f"), 0);
        Store chain = Store.with(Samples.CHAIN);
        for (int size = 0; size <= 60; size++) {
            Store s = size < 10 ? chain : Store.with(Samples.CHAIN);
            CHECKS.due(size + " letters", s.starting("a".repeat(size)), size == 0 ? 7 : Math.max(0, 8 - size));
        }
        String[] none = {"ab", "a ", " ", " a", "A", "aaaaaaaa"};
        for (String text : none) {
            CHECKS.due(text, chain.starting(text), 0);
        }
        chain.remove("aaaaaaa");
        CHECKS.due("removed", chain.starting("aaaaaaa"), 0);
        CHECKS.due("one less", chain.starting("a"), 6);
    }

    private static void longest() {
        Store s = Store.with("a", "abc", "abcdefg", "h");
        CHECKS.due("the text itself", s.longest("abcdefg"), 2);
        CHECKS.due("one letter less", s.longest("abcdef"), 1);
        CHECKS.due("one letter more", s.longest("abcdefgh"), 2);
        CHECKS.due("off the way", s.longest("abd"), 0);
        CHECKS.due("no letter behind it", s.longest("abc?"), 1);
        CHECKS.due("sixty", s.longest(Samples.SIXTY), 0);
        CHECKS.due("sixty with the longest", s.longest("abcdefg" + "~".repeat(53)), 2);
        CHECKS.due("the last word", s.longest("hh"), 3);
    }

    private static void longestOfNone() {
        Store s = Store.with("abc", "h");
        String[] none = {"", "a", "ab", "b", "bc", "?abc", " h", "abdabc", "ABC", Samples.SIXTY};
        for (String text : none) {
            CHECKS.due("longest of " + text, s.longest(text), -1);
        }
        CHECKS.due("no words", new Store().longest("abc"), -1);
        CHECKS.due("no words, the empty row", new Store().longest(""), -1);
        s.remove("abc");
        CHECKS.due("removed", s.longest("abc"), -1);
    }

    private static void statesOfNone() {
        CHECKS.due("new", new Store().x.states(), 1);
        Store s = Store.with("abcdefg", "bbcdefg");
        s.remove("abcdefg");
        CHECKS.due("one left", s.x.states(), 8);
        s.remove("bbcdefg");
        CHECKS.due("none left", s.x.states(), 1);
    }

    private static void statesOfThirty() {
        CHECKS.due("short words", Samples.full().x.states(), 3);
        CHECKS.due("long words", Samples.longWords().x.states(), 1 + 8 + 30 * 4 + 8 + 1);
        CHECKS.due("words of all lengths", allLengths().x.states(), 1 + 7);
    }

    private static void edgesOfNone() {
        CHECKS.due("new", new Store().x.edges(), 0);
        Store s = Store.with("abcdefg", "bbcdefg");
        s.remove("abcdefg");
        CHECKS.due("one left", s.x.edges(), 7);
        s.remove("bbcdefg");
        CHECKS.due("none left", s.x.edges(), 0);
    }

    private static void edgesOfThirty() {
        CHECKS.due("short words", Samples.full().x.edges(), 5 + 6);
        CHECKS.due("long words", Samples.longWords().x.edges(), 8 + 30 * 5 + 8);
        CHECKS.due("words of all lengths", allLengths().x.edges(), 5 + 6);
    }

    // a .. aaaaaaa, the same with b, c and d first, and e and ea: a .. d are alike, e is alike to aaaaaa.
    private static Store allLengths() {
        Store s = new Store();
        for (char first = 'a'; first <= 'd'; first++) {
            for (int size = 0; size < 7; size++) {
                s.add(first + "a".repeat(size));
            }
        }
        s.add("e");
        s.add("ea");
        return s;
    }

    private static void upAndDown() {
        Store s = new Store();
        PlainStore plain = new PlainStore();
        for (int n = 0; n < 29; n++) {
            String word = Samples.longWord(n * 7 % 30).substring(n % 4);
            CHECKS.due("add of " + word, s.add(word), typed(plain, word).add());
            sameSize(word + " added", s, plain);
        }
        Store down = Samples.full();
        PlainStore plainDown = new PlainStore();
        for (int n = 0; n < 30; n++) {
            typed(plainDown, fullWord(n)).add();
        }
        for (int n = 0; n < 30; n++) {
            String word = fullWord(n * 11 % 30);
            CHECKS.due("remove of " + word, down.remove(word), typed(plainDown, word).remove());
            sameSize(word + " removed", down, plainDown);
        }
    }

    private static String fullWord(int n) {
        return "" + (char) ('a' + n / 6) + (char) ('a' + n % 6);
    }

    private static PlainStore typed(PlainStore plain, String text) {
        for (char c : text.toCharArray()) {
            plain.type(c);
        }
        return plain;
    }

    private static void sameSize(String what, Store s, PlainStore plain) {
        CHECKS.due("states, " + what, s.x.states(), plain.states());
        CHECKS.due("edges, " + what, s.x.edges(), plain.edges());
    }

    private static void alikeToItself() {
        CHECKS.due("no words, the empty row", new Store().alike(""), 1);
        Store one = Store.with("abcdefg");
        for (int size = 0; size <= 7; size++) {
            CHECKS.due("one word, " + size + " letters", one.alike("abcdefg".substring(0, size)), 1);
        }
        Store full = Samples.full();
        CHECKS.due("thirty, the empty row", full.alike(""), 1);
        CHECKS.due("thirty, a", full.alike("a"), 5);
        CHECKS.due("thirty, ef", full.alike("ef"), 30);
        full.remove("ef");
        CHECKS.due("29, a", full.alike("a"), 4);
        CHECKS.due("29, e", full.alike("e"), 1);
        CHECKS.due("29, aa", full.alike("aa"), 29);
        Store chain = Store.with(Samples.CHAIN);
        CHECKS.due("a chain", chain.alike("aaaaaaa"), 1);
    }

    private static void alikeOfNone() {
        Store s = Store.with("ab", "cb");
        String[] none = {"b", "abc", "aba", "ba", "a ", " ", "i", "A", "abcdefg", "abcdefga", Samples.SIXTY};
        for (String text : none) {
            CHECKS.due("alike of " + text, s.alike(text), -1);
        }
        s.remove("cb");
        CHECKS.due("removed, cb", s.alike("cb"), -1);
        CHECKS.due("removed, c", s.alike("c"), -1);
        CHECKS.due("ab stays, a", s.alike("a"), 1);
        CHECKS.due("no words, a", new Store().alike("a"), -1);
        CHECKS.due("no words, a space", new Store().alike(" "), -1);
    }

    private static void near() {
        Store s = Store.with(Samples.CHAIN);
        String[] dues = {"2/0", "1/1 2/0 3/1", "0/2 1/1 2/0 3/1 4/2"};
        for (int most = 0; most <= 2; most++) {
            CHECKS.due("near " + most, s.near("aaa", most), 1 + 2 * most);
            CHECKS.due("found " + most, s.found(), dues[most]);
        }
        CHECKS.due("of the empty row, 0", s.near("", 0), 0);
        CHECKS.due("of the empty row, 2", s.near("", 2), 2);
        CHECKS.due("found of the empty row", s.found(), "0/1 1/2");
        CHECKS.due("of nine letters", s.near("a".repeat(9), 2), 1);
        CHECKS.due("found of nine letters", s.found(), "6/2");
        CHECKS.due("of ten letters", s.near("a".repeat(10), 2), 0);
        CHECKS.due("found of ten letters", s.found(), "");
        CHECKS.due("of no letters", s.near("? ", 2), 2);
        CHECKS.due("found of no letters", s.found(), "0/2 1/2");
        CHECKS.due("no words", new Store().near("a", 2), 0);
        CHECKS.due("sixty", Store.with("a").near(Samples.SIXTY, 2), 0);
        Store full = Samples.full();
        CHECKS.due("all of thirty", full.near("", 2), 30);
        for (int k = 0; k < 30; k++) {
            CHECKS.due("number " + k, full.x.found(k, 0), k);
        }
    }

    private static void nearOfWrong() {
        int[] wrong = {-1, -2, 3, 4, 256, 258, Integer.MIN_VALUE, Integer.MIN_VALUE + 1, Integer.MAX_VALUE};
        for (int most : wrong) {
            CHECKS.dueThrow("no words, near " + most, ARGUMENT, () -> new SharedEndings().near(most));
            Store s = Store.with("ab", "b");
            s.scan("ab");
            CHECKS.dueThrow("near " + most, ARGUMENT, () -> s.near("ab", most));
            CHECKS.due("found stays", s.found(), "0/2 1/2");
            CHECKS.due("the text stays", s.x.rank(), 0);
        }
        for (int most = 0; most <= 2; most++) {
            CHECKS.due("near " + most, Store.with("ab").near("ab", most), 1);
        }
    }

    private static void scan() {
        Store s = Store.with("a", "abcdefg", "cde", "h");
        CHECKS.due("the empty row", s.scan(""), 0);
        CHECKS.due("found in the empty row", s.found(), "");
        CHECKS.due("no letters", s.scan("?".repeat(60)), 0);
        CHECKS.due("one", s.scan("a"), 1);
        CHECKS.due("at the start and at the end", s.scan("abcdefg" + " ".repeat(52) + "h"), 4);
        CHECKS.due("their places", s.found(), "0/1 2/5 1/7 3/60");
        CHECKS.due("broken by another character", s.scan("abc defgcd e"), 1);
        CHECKS.due("cut off", s.scan("bcdefgabcdef"), 3);
        CHECKS.due("found in what is cut off", s.found(), "2/4 0/7 2/11");
        CHECKS.due("no words", new Store().scan("abc"), 0);
        Store full = Samples.full();
        CHECKS.due("a word behind each place but the first", full.scan("abcdea".repeat(10)), 59);
    }

    // Where aaaaaaa breaks off, the search goes back over up to seven shorter rows, the empty one at last.
    private static void scanBehindBrokenRows() {
        for (int size = 0; size <= 6; size++) {
            Store s = Store.with("aaaaaaa", "a".repeat(size) + "b");
            CHECKS.due("eight letters, then b, " + size, s.scan("aaaaaaaab"), 3);
            CHECKS.due("found there, " + size, s.found(), "0/7 0/8 1/9");
        }
        for (int size = 1; size <= 7; size++) {
            Store s = Store.with("a".repeat(size), "b", "bc");
            CHECKS.due("just " + size + ", then bc", s.scan("a".repeat(size) + "bc"), 3);
            CHECKS.due("found there", s.found(), "0/" + size + " 1/" + (size + 1) + " 2/" + (size + 2));
        }
    }

    private static void scanOrder() {
        Store numbers = Store.with(Samples.CHAIN);
        Store places = Store.with(Samples.CHAIN);
        CHECKS.due("the most that can be found", numbers.scan(Samples.SIXTY), 399);
        places.scan(Samples.SIXTY);
        int k = 0;
        for (int end = 1; end <= 60; end++) {
            for (int size = Math.min(end, 7); size >= 1; size--) {
                CHECKS.due("number of find " + k, numbers.x.found(k, 0), size - 1);
                CHECKS.due("place of find " + k, places.x.found(k, 1), end);
                k++;
            }
        }
        Store s = Store.with("g", "fg", "efg", "defg", "cdefg", "bcdefg", "abcdefg");
        CHECKS.due("endings of one word", s.scan("abcdefg"), 7);
        CHECKS.due("longest first", s.found(), "0/7 1/7 2/7 3/7 4/7 5/7 6/7");
        s.remove("efg");
        CHECKS.due("without one between", s.scan("hbcdefg"), 5);
        CHECKS.due("longest of these first", s.found(), "1/7 2/7 3/7 4/7 5/7");
    }

    private static void foundOfNone() {
        int[] wrong = {-1, 2, 3, 419, 420, 1000, Integer.MIN_VALUE, Integer.MAX_VALUE};
        for (int what = 0; what <= 1; what++) {
            int kind = what;
            Store s = Store.with("ab", "b");
            s.scan("ab");
            for (int k : wrong) {
                CHECKS.dueThrow("found(" + k + ", " + kind + ")", INDEX, () -> s.x.found(k, kind));
            }
            CHECKS.dueThrow("nothing was looked for", INDEX, () -> Store.with("a").x.found(0, kind));
            s.scan("");
            CHECKS.dueThrow("nothing was found", INDEX, () -> s.x.found(0, kind));
            s.near("b", 0);
            CHECKS.due("one was found", s.x.found(0, kind), 1 - kind);
            CHECKS.dueThrow("but one", INDEX, () -> s.x.found(1, kind));
        }
        Store most = Store.with(Samples.CHAIN);
        most.scan(Samples.SIXTY);
        CHECKS.due("the last of the most", most.x.found(398, 1), 60);
        CHECKS.dueThrow("behind the last of the most", INDEX, () -> most.x.found(399, 1));
    }

    private static void foundOfWrong() {
        int[] wrong = {-1, 2, 3, 256, Integer.MIN_VALUE, Integer.MIN_VALUE + 1, Integer.MAX_VALUE};
        Store s = Store.with("ab", "b");
        s.scan("ab");
        for (int what : wrong) {
            CHECKS.dueThrow("found(0, " + what + ")", ARGUMENT, () -> s.x.found(0, what));
            CHECKS.dueThrow("found(1, " + what + ")", ARGUMENT, () -> s.x.found(1, what));
        }
        CHECKS.due("found stays", s.found(), "0/2 1/2");
        // The document tells no order of the two; it names this one first.
        CHECKS.dueThrow("both are wrong", INDEX, () -> s.x.found(2, 2));
    }

    private static void foundWhat() {
        Store s = Store.with("ab", "b");
        s.scan("??ab");
        CHECKS.due("places", s.found(), "0/4 1/4");
        s.near("b", 2);
        CHECKS.due("distances", s.found(), "0/1 1/0");
        s.scan("b");
        CHECKS.due("places again", s.found(), "1/1");
    }

    private static void splitsOfEmpty() {
        CHECKS.due("no words", new Store().splits(""), 1);
        CHECKS.due("one word", Store.with("a").splits(""), 1);
        CHECKS.due("thirty words", Samples.full().splits(""), 1);
        Store s = Store.with("a");
        s.splits("aab");
        CHECKS.due("behind another text", s.splits(""), 1);
    }

    private static void splitsOfNone() {
        CHECKS.due("no words", new Store().splits("a"), 0);
        Store s = Store.with("ab", "abc", "h");
        String[] none = {"a", "b", "aba", "bab", "abcd", "ab ab", " ab", "ab ", "abcbc", "AB", "h".repeat(59) + "a",
            "a" + "h".repeat(59)};
        for (String text : none) {
            CHECKS.due("splits of " + text, s.splits(text), 0);
        }
        CHECKS.due("behind them one that has one", s.splits("abcab"), 1);
    }

    private static void splitsOfSixty() {
        Store most = Store.with(Samples.CHAIN);
        CHECKS.due("words of all lengths", most.splits(Samples.SIXTY), 464030570685755168L);
        CHECKS.due("the same again", most.splits(Samples.SIXTY), 464030570685755168L);
        CHECKS.due("one word", Store.with("a").splits(Samples.SIXTY), 1);
        CHECKS.due("one or two letters", Store.with("a", "aa").splits(Samples.SIXTY), 2504730781961L);
        CHECKS.due("no way in the end", most.splits("a".repeat(59) + "b"), 0);
    }

    private static void splitFewest() {
        CHECKS.due("one word", Store.with("a", "b", "ab").split("ab"), "1:ab");
        CHECKS.due("a longest first word costs more", Store.with("abc", "a", "d", "e", "bcde").split("abcde"), "2:a.bcde");
        CHECKS.due("the longest leads nowhere", Store.with("ab", "abc", "cd").split("abcd"), "2:ab.cd");
        CHECKS.due("sixty letters", Store.with(Samples.CHAIN).split(Samples.SIXTY), "9:" + "aaaaaaa.".repeat(8) + "aaaa");
        CHECKS.due("the empty text", Store.with("a").split(""), "0:");
    }

    private static void splitLongest() {
        CHECKS.due("first word", Store.with("a", "aa", "aaa").split("aaaa"), "2:aaa.a");
        Store second = Store.with("ab", "c", "cd", "cde", "def", "ef", "f");
        CHECKS.due("second word", second.split("abcdef"), "3:ab.cde.f");
        Store third = Store.with("h", "a", "aa", "aaa");
        CHECKS.due("third word", third.split("hhaaaa"), "4:h.h.aaa.a");
        Store first = Store.with("abc", "ab", "d", "cdefgh", "efgh", "cde", "fgh", "e");
        CHECKS.due("fewest, then longest first", first.split("abcdefgh"), "2:ab.cdefgh");
        first.remove("cdefgh");
        CHECKS.due("as few, first word longer", first.split("abcdefgh"), "3:abc.d.efgh");
    }

    private static void splitWrites() {
        Store s = Store.with("a", "bb");
        CHECKS.due("no point behind one word", s.split("bb"), "1:bb");
        CHECKS.due("sixty words", s.split(Samples.SIXTY), "60:" + "a.".repeat(59) + "a");
        CHECKS.due("a shorter one instead", s.split("abb"), "2:a.bb");
        CHECKS.due("nothing left behind it", s.x.charAt(4), ' ');
        s.x.word(1);
        CHECKS.due("instead of a word", s.split("aa"), "2:a.a");
        CHECKS.due("no words instead", s.split(""), "0:");
        CHECKS.due("nothing left of it", s.x.charAt(0), ' ');
    }

    private static void splitOfNone() {
        Store s = Store.with("ab", "b");
        CHECKS.due("no page yet", s.split("a"), "-1:");
        s.x.word(0);
        String[] none = {"a", "ba", "ab ", " ab", "ab.b", "i", "b".repeat(59) + "a", "a" + "b".repeat(58) + "a"};
        for (String text : none) {
            CHECKS.due("split of " + text, s.split(text), "-1:ab");
        }
        CHECKS.due("a page of a split", s.split("abb"), "2:ab.b");
        CHECKS.due("stays, too", s.split("ba"), "-1:ab.b");
        CHECKS.due("no words", new Store().split("a"), "-1:");
    }

    private static void length() {
        CHECKS.due("new", new SharedEndings().length(), 0);
        Store s = Store.with("a", "bcdefgh");
        s.type(Samples.SIXTY).x.split();
        CHECKS.due("the longest page", s.x.length(), 119);
        s.x.word(1);
        CHECKS.due("the longest word", s.x.length(), 7);
        CHECKS.dueThrow("no word", INDEX, () -> s.x.word(2));
        CHECKS.due("a call that throws", s.x.length(), 7);
        s.x.word(0);
        CHECKS.due("the shortest word", s.x.length(), 1);
        s.type("ab").x.split();
        CHECKS.due("no split", s.x.length(), 1);
        s.x.split();
        CHECKS.due("the empty text", s.x.length(), 0);
    }

    private static void charAtOfNone() {
        Store s = Store.with("a", "bcdefgh");
        int[] never = {-1, -2, -119, 119, 120, 65536, Integer.MIN_VALUE, Integer.MAX_VALUE};
        spaces("empty page", s, never);
        spaces("empty page", s, 0, 1);
        s.type(Samples.SIXTY).x.split();
        CHECKS.due("the last of the longest page", s.x.charAt(118), 'a');
        CHECKS.due("the last point", s.x.charAt(117), '.');
        spaces("longest page", s, never);
        s.x.word(1);
        CHECKS.due("the last letter", s.x.charAt(6), 'h');
        spaces("word", s, never);
        spaces("word", s, 7, 8, 117, 118);
        s.x.split();
        spaces("no page again", s, never);
        spaces("no page again", s, 0, 6, 118);
    }

    private static void spaces(String what, Store s, int... places) {
        for (int p : places) {
            CHECKS.due(what + ", charAt " + p, s.x.charAt(p), ' ');
        }
    }
}
