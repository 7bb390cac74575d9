import java.util.Random;
import java.util.function.Consumer;

/** The sentences of "What it is" and of "Terms" that name an edge, each by a test of its own. */
public final class TermsEdgesTest {
    private static final Class<IllegalStateException> STATE = IllegalStateException.class;
    private static final Class<IllegalArgumentException> ARGUMENT = IllegalArgumentException.class;
    private static final Class<IndexOutOfBoundsException> INDEX = IndexOutOfBoundsException.class;
    private static final int CALLS = 512;
    private static final Checks CHECKS = new Checks();

    private TermsEdgesTest() {
    }

    public static void main(String[] args) {
        CHECKS.sentence("What it is: an object is used for at most 512 calls", TermsEdgesTest::callsUpToTheLast);
        CHECKS.sentence("What it is: what later calls answer is free", TermsEdgesTest::callsBeyondTheLast);
        CHECKS.sentence("Terms: LETTERS are a .. h", TermsEdgesTest::letters);
        CHECKS.sentence("Terms: a WORD is a row of 1 to 7 letters", TermsEdgesTest::wordSizes);
        CHECKS.sentence("Terms: at most 30 words are HELD", TermsEdgesTest::atMostThirty);
        CHECKS.sentence("Terms: numbered 0, 1, .. in the order of their letters", TermsEdgesTest::numbers);
        CHECKS.sentence("Terms: a word standing before those that go on behind it", TermsEdgesTest::numbersOfChain);
        CHECKS.sentence("Terms: the TEXT has at most 60 characters", TermsEdgesTest::textSize);
        CHECKS.sentence("Terms: characters with codes 32 .. 126", TermsEdgesTest::textCodes);
        CHECKS.sentence("Terms: places count from 0", TermsEdgesTest::places);
        CHECKS.sentence("Terms: PREFIXES are the rows with which held words begin", TermsEdgesTest::prefixes);
        CHECKS.sentence("Terms: the empty row alone, when no word is held", TermsEdgesTest::prefixesOfNone);
        CHECKS.sentence("Terms: ALIKE if just the same rows make held words", TermsEdgesTest::alike);
        CHECKS.sentence("Terms: ALIKE, the empty row, too", TermsEdgesTest::alikeByTheEmptyRow);
        CHECKS.sentence("Terms: the empty text has one split, of no words", TermsEdgesTest::emptySplit);
        CHECKS.sentence("Terms: DISTANCE, at least", TermsEdgesTest::distance);
        CHECKS.sentence("Terms: FOUND is empty at first", TermsEdgesTest::foundAtFirst);
        CHECKS.sentence("Terms: FOUND is empty whenever a word is added", TermsEdgesTest::foundAfterAdd);
        CHECKS.sentence("Terms: FOUND is empty whenever a word is removed", TermsEdgesTest::foundAfterRemove);
        CHECKS.sentence("Terms: calls that use the text make it empty", TermsEdgesTest::textIsUsed);
        CHECKS.sentence("Terms: .. unless they throw", TermsEdgesTest::textOutlivesThrows);
        CHECKS.sentence("Terms: a call that throws changes nothing", TermsEdgesTest::throwsChangeNothing);
        CHECKS.end();
    }

    private static void callsUpToTheLast() {
        SharedEndings x = new SharedEndings();
        for (int calls = 0; calls < CALLS; calls += 4) {
            CHECKS.due("type before call " + calls, x.type('a'), true);
            CHECKS.due("add before call " + calls, x.add(), 1);
            CHECKS.due("type again before call " + calls, x.type('a'), true);
            CHECKS.due("remove before call " + calls, x.remove(), true);
        }
        // 240 calls add the words, 56 type the text and one splits it.
        Store s = Samples.longWords();
        String text = (Samples.longWord(0) + Samples.longWord(29)).repeat(4);
        CHECKS.due("split of 56 characters", s.type(text).x.split(), 8);
        for (int calls = 240 + 57; calls < CALLS - 1; calls++) {
            CHECKS.due("length before call " + calls, s.x.length(), 63);
        }
        CHECKS.due("the 512th call", s.x.charAt(62), 'f');
    }

    // The answers are free, but no call may end by an exception that it does not name, nor fail to end.
    private static void callsBeyondTheLast() {
        SharedEndings x = new SharedEndings();
        Random random = new Random(1);
        StringBuilder strange = new StringBuilder();
        for (int calls = 0; calls < 200 * CALLS; calls++) {
            for (int n = random.nextInt(4); n < 4; n++) {
                x.type((char) ('a' + random.nextInt(3)));
            }
            strange.append(strangeThrow(x, random.nextInt(16), random.nextInt(70) - 5));
        }
        CHECKS.due("exceptions that a call does not name", strange.toString(), "");
    }

    private static String strangeThrow(SharedEndings x, int call, int number) {
        try {
            use(x, call, number);
            return "";
        } catch (RuntimeException e) {
            Class<?> thrown = e.getClass();
            boolean isNamed = switch (call) {
                case 0 -> thrown == STATE;
                case 1 -> thrown == ARGUMENT;
                case 2 -> thrown == INDEX;
                case 3 -> thrown == INDEX || thrown == ARGUMENT;
                default -> false;
            };
            return isNamed ? "" : " call " + call + ": " + e;
        }
    }

    private static void use(SharedEndings x, int call, int number) {
        switch (call) {
            case 0 -> x.add();
            case 1 -> x.near(number);
            case 2 -> x.word(number);
            case 3 -> x.found(number, number % 3);
            case 4 -> x.remove();
            case 5 -> x.wipe();
            case 6 -> x.scan();
            case 7 -> x.longest();
            case 8 -> x.splits();
            case 9 -> x.split();
            case 10 -> x.states();
            case 11 -> x.edges();
            case 12 -> x.alike();
            case 13 -> x.charAt(number);
            case 14 -> x.rank();
            default -> x.starting();
        }
    }

    private static void letters() {
        for (char c = 32; c <= 126; c++) {
            boolean isLetter = "abcdefgh".indexOf(c) >= 0;
            Store s = new Store();
            CHECKS.due("add of " + c, s.add("" + c), isLetter ? 1 : -1);
            CHECKS.due("add with " + c + " first", s.add(c + "ab"), isLetter ? 1 : -1);
            CHECKS.due("add with " + c + " between", s.add("ab" + c + "b"), isLetter ? 1 : -1);
            CHECKS.due("add with " + c + " last", s.add("bb" + c), isLetter ? 1 : -1);
            CHECKS.due("words with " + c, s.x.words(), isLetter ? 4 : 0);
            CHECKS.due("scan for " + c, s.scan("" + c), isLetter ? 1 : 0);
        }
    }

    private static void wordSizes() {
        for (int size = 0; size <= 60; size++) {
            boolean isWord = size >= 1 && size <= 7;
            Store s = new Store();
            String row = "abcdefgh".repeat(8).substring(0, size);
            CHECKS.due("add of " + size + " letters", s.add(row), isWord ? 1 : -1);
            CHECKS.due("words after " + size + " letters", s.x.words(), isWord ? 1 : 0);
            CHECKS.due("rank of " + size + " letters", s.rank(row), isWord ? 0 : -1);
            CHECKS.due("remove of " + size + " letters", s.remove(row), isWord);
        }
    }

    private static void atMostThirty() {
        Store s = new Store();
        for (int n = 0; n < 30; n++) {
            CHECKS.due("words before word " + n, s.x.words(), n);
            CHECKS.due("add of word " + n, s.add(Samples.longWord(n)), 1);
        }
        CHECKS.dueThrow("word 30", STATE, () -> s.add("h"));
        s.x.wipe();
        CHECKS.due("words", s.x.words(), 30);
        CHECKS.due("not held", s.rank("h"), -1);
        CHECKS.due("remove", s.remove(Samples.longWord(17)), true);
        CHECKS.due("room for one", s.add("h"), 1);
        CHECKS.dueThrow("no more", STATE, () -> s.add(Samples.longWord(17)));
        CHECKS.due("words again", s.x.words(), 30);
        CHECKS.due("the last number", s.word(29), "7:" + Samples.longWord(29));
    }

    private static void numbers() {
        String[] order = {"a", "abh", "ac", "b", "baaaaaa", "bb", "hh"};
        for (int step = 1; step < order.length; step++) {
            Store s = new Store();
            for (int n = 0; n < order.length; n++) {
                s.add(order[n * step % order.length]);
            }
            inOrder("added by steps of " + step, s, order);
        }
        Store s = Store.with("hh", "bb", "c", "baaaaaa", "b", "ac", "abh", "a", "aba");
        s.remove("c");
        s.remove("aba");
        inOrder("behind removed ones", s, order);
        Store full = Samples.longWords();
        for (int n = 0; n < 30; n++) {
            CHECKS.due("one of thirty", full.rank(Samples.longWord(n)), n);
        }
    }

    private static void numbersOfChain() {
        Store up = Store.with(Samples.CHAIN);
        inOrder("shortest added first", up, Samples.CHAIN);
        Store down = new Store();
        for (int n = Samples.CHAIN.length - 1; n >= 0; n--) {
            down.add(Samples.CHAIN[n]);
        }
        inOrder("longest added first", down, Samples.CHAIN);
        Store mixed = Store.with("b", "abh", "aba", "ab", "aah");
        inOrder("before those alone", mixed, "aah", "ab", "aba", "abh", "b");
    }

    private static void inOrder(String what, Store s, String... order) {
        for (int n = 0; n < order.length; n++) {
            CHECKS.due(what + ", rank of " + order[n], s.rank(order[n]), n);
            CHECKS.due(what + ", word " + n, s.word(n), order[n].length() + ":" + order[n]);
        }
    }

    private static void textSize() {
        Store s = Store.with("h", "hb");
        s.type(" ".repeat(59));
        CHECKS.due("character 60", s.x.type('h'), true);
        CHECKS.due("character 61", s.x.type('b'), false);
        CHECKS.due("words in the sixty", s.x.scan(), 1);
        CHECKS.due("at its end", s.found(), "0/60");
        s.type(Samples.SIXTY);
        CHECKS.due("sixty again", s.x.type('a'), false);
        CHECKS.due("had", s.x.wipe(), 60);
    }

    private static void textCodes() {
        int[] in = {32, 33, 'a', 'h', 'i', 125, 126};
        int[] out = {0, 1, 31, 127, 128, 255, 256, 256 + 'a', 32767, 32768 + 'a', 65535};
        Store s = Store.with("a");
        for (int c : in) {
            CHECKS.due("type of code " + c, s.x.type((char) c), true);
        }
        for (int c : out) {
            CHECKS.due("type of code " + c, s.x.type((char) c), false);
        }
        CHECKS.due("what was typed", s.x.scan(), 1);
        CHECKS.due("and where", s.found(), "0/3");
        for (int c : out) {
            CHECKS.due("type of code " + c + " first", s.x.type((char) c), false);
        }
        CHECKS.due("nothing typed", s.x.wipe(), 0);
    }

    private static void places() {
        Store s = Store.with("ab");
        s.x.word(0);
        CHECKS.due("place 0 of the page", s.x.charAt(0), 'a');
        CHECKS.due("place 1 of the page", s.x.charAt(1), 'b');
        CHECKS.due("a word at place 0", s.scan("ab"), 1);
        CHECKS.due("the place behind it", s.found(), "0/2");
        CHECKS.due("a word at place 58", s.scan("?".repeat(58) + "ab"), 1);
        CHECKS.due("the place behind that", s.found(), "0/60");
    }

    private static void prefixes() {
        Store s = Store.with("abcdefg", "ah");
        for (int size = 0; size <= 7; size++) {
            String row = "abcdefg".substring(0, size);
            CHECKS.due("prefix " + row, s.alike(row), size == 7 ? 2 : 1);
            CHECKS.due("no prefix " + row + "h", s.alike(row + "h"), size == 1 ? 2 : -1);
        }
        String[] none = {"b", "bcdefg", "g", "aha", "abcdefga", "a ", " a", Samples.SIXTY};
        for (String row : none) {
            CHECKS.due("no prefix " + row, s.alike(row), -1);
        }
    }

    private static void prefixesOfNone() {
        Store s = new Store();
        CHECKS.due("new, the empty row", s.alike(""), 1);
        CHECKS.due("new, a", s.alike("a"), -1);
        s.add("ab");
        CHECKS.due("ab, a", s.alike("a"), 1);
        s.remove("ab");
        CHECKS.due("none again, the empty row", s.alike(""), 1);
        CHECKS.due("none again, a", s.alike("a"), -1);
        CHECKS.due("none again, ab", s.alike("ab"), -1);
        CHECKS.due("none again, states", s.x.states(), 1);
    }

    private static void alike() {
        Store s = Store.with("ac", "ad", "bc", "bd", "ec");
        CHECKS.due("a and b", s.alike("a"), 2);
        CHECKS.due("b and a", s.alike("b"), 2);
        CHECKS.due("e has fewer rows behind it", s.alike("e"), 1);
        CHECKS.due("the words", s.alike("ec"), 5);
        s.add("ed");
        CHECKS.due("e has the same now", s.alike("e"), 3);
        s.add("bdh");
        CHECKS.due("b has one more", s.alike("b"), 1);
        CHECKS.due("bd has one more", s.alike("bd"), 1);
        CHECKS.due("a and e", s.alike("a"), 2);
        CHECKS.due("words with nothing behind", s.alike("bc"), 6);
    }

    private static void alikeByTheEmptyRow() {
        Store s = Store.with("ac", "bc", "b");
        CHECKS.due("a is no word", s.alike("a"), 1);
        CHECKS.due("b is one", s.alike("b"), 1);
        CHECKS.due("states", s.x.states(), 4);
        s.add("a");
        CHECKS.due("both are words", s.alike("a"), 2);
        CHECKS.due("states of both", s.x.states(), 3);
        CHECKS.due("the empty row is alike to itself alone", s.alike(""), 1);
    }

    private static void emptySplit() {
        Store s = new Store();
        CHECKS.due("splits with no word", s.splits(""), 1);
        CHECKS.due("split with no word", s.split(""), "0:");
        Store one = Store.with("a");
        CHECKS.due("a page before", one.split("aa"), "2:a.a");
        CHECKS.due("splits", one.splits(""), 1);
        CHECKS.due("split, the page is written", one.split(""), "0:");
        CHECKS.due("splits of the thirty", Samples.full().splits(""), 1);
    }

    private static void distance() {
        String[] texts = {"abcdefg", "bcdefg", "abcdef", "abcefg", "habcdefg", "abcdefgh", "abcddefg", "abc?efg",
            "bcdefga", "gabcdef", "bacdefg", "cdefg", "abcde", "abcdefghh", "a bcdef g", "hbcdefh", "bcdefgh?"};
        int[] dues = {0, 1, 1, 1, 1, 1, 1, 1, 2, 2, 2, 2, 2, 2, 2, 2, 3};
        for (int n = 0; n < texts.length; n++) {
            Store s = Store.with("abcdefg");
            for (int most = 0; most <= 2; most++) {
                CHECKS.due(texts[n] + ", near " + most, s.near(texts[n], most), dues[n] <= most ? 1 : 0);
                CHECKS.due(texts[n] + ", far", s.found(), dues[n] <= most ? "0/" + dues[n] : "");
            }
        }
        CHECKS.due("capitals are other characters", Store.with("abcdefg").near("ABcdefg", 1), 0);
    }

    private static void foundAtFirst() {
        CHECKS.dueThrow("found(0, 0)", INDEX, () -> new SharedEndings().found(0, 0));
        CHECKS.dueThrow("found(0, 1)", INDEX, () -> new SharedEndings().found(0, 1));
    }

    private static void foundAfterAdd() {
        Store s = Store.with("ab");
        s.scan("abab");
        CHECKS.due("no word is added", s.add("i"), -1);
        CHECKS.due("a held one is added", s.add("ab"), 0);
        CHECKS.due("found stays", s.found(), "0/2 0/4");
        CHECKS.due("a word is added", s.add("b"), 1);
        CHECKS.due("found is empty", s.found(), "");
        s.near("b", 2);
        CHECKS.due("near", s.found(), "0/1 1/0");
        s.add("c");
        CHECKS.due("near is empty", s.found(), "");
    }

    private static void foundAfterRemove() {
        Store s = Store.with("ab", "b", "c");
        s.scan("abab");
        CHECKS.due("no word is removed", s.remove("i"), false);
        CHECKS.due("a prefix is removed", s.remove("a"), false);
        CHECKS.due("the empty row is removed", s.remove(""), false);
        CHECKS.due("found stays", s.found(), "0/2 1/2 0/4 1/4");
        CHECKS.due("a word that was not found is removed", s.remove("c"), true);
        CHECKS.due("found is empty", s.found(), "");
        s.near("b", 2);
        CHECKS.due("near", s.found(), "0/1 1/0");
        s.remove("b");
        CHECKS.due("near is empty", s.found(), "");
    }

    private static void textIsUsed() {
        String[] texts = {"ab", "a", "c", "abab", "?", Samples.SIXTY};
        for (String text : texts) {
            used("wipe", text, s -> s.x.wipe());
            used("add", text, s -> s.x.add());
            used("remove", text, s -> s.x.remove());
            used("rank", text, s -> s.x.rank());
            used("starting", text, s -> s.x.starting());
            used("longest", text, s -> s.x.longest());
            used("alike", text, s -> s.x.alike());
            used("near", text, s -> s.x.near(0));
            used("scan", text, s -> s.x.scan());
            used("splits", text, s -> s.x.splits());
            used("split", text, s -> s.x.split());
            notUsed("type", text, s -> s.x.type((char) 127));
            notUsed("words", text, s -> s.x.words());
            notUsed("word", text, s -> s.x.word(0));
            notUsed("states", text, s -> s.x.states());
            notUsed("edges", text, s -> s.x.edges());
            notUsed("found", text, s -> s.x.found(0, 0));
            notUsed("length", text, s -> s.x.length());
            notUsed("charAt", text, s -> s.x.charAt(0));
        }
    }

    private static void used(String what, String text, Consumer<Store> call) {
        Store s = Store.with("ab").type(text);
        call.accept(s);
        CHECKS.due("left of " + text + " by " + what, s.x.wipe(), 0);
    }

    private static void notUsed(String what, String text, Consumer<Store> call) {
        Store s = Store.with("ab");
        s.scan("ab");
        call.accept(s.type(text));
        CHECKS.due("left of " + text + " by " + what, s.x.wipe(), text.length());
    }

    private static void textOutlivesThrows() {
        String[] texts = {"", "ab", "h", "habab?", Samples.SIXTY};
        for (String text : texts) {
            Store s = Samples.full().type(text);
            CHECKS.dueThrow("add", STATE, s.x::add);
            CHECKS.due("left of " + text + " by add", s.x.wipe(), text.length());
            s.type(text);
            CHECKS.dueThrow("near", ARGUMENT, () -> s.x.near(3));
            CHECKS.due("left of " + text + " by near", s.x.wipe(), text.length());
        }
        Store s = Samples.full().type("ab");
        CHECKS.dueThrow("add", STATE, s.x::add);
        CHECKS.dueThrow("near", ARGUMENT, () -> s.x.near(-1));
        CHECKS.due("it is still the same", s.x.rank(), 1);
    }

    private static void throwsChangeNothing() {
        unchanged("add()", STATE, s -> s.x.add());
        unchanged("word(30)", INDEX, s -> s.x.word(30));
        unchanged("word(-1)", INDEX, s -> s.x.word(-1));
        unchanged("near(3)", ARGUMENT, s -> s.x.near(3));
        unchanged("near(-1)", ARGUMENT, s -> s.x.near(-1));
        unchanged("found(2, 0)", INDEX, s -> s.x.found(2, 0));
        unchanged("found(-1, 1)", INDEX, s -> s.x.found(-1, 1));
        unchanged("found(0, 2)", ARGUMENT, s -> s.x.found(0, 2));
        unchanged("found(0, -1)", ARGUMENT, s -> s.x.found(0, -1));
    }

    private static void unchanged(String what, Class<? extends RuntimeException> thrown, Consumer<Store> call) {
        Store s = Samples.full();
        s.split("abcd");
        s.scan("ab ef");
        s.type("efab");
        String before = look(s);
        CHECKS.due("before " + what, before, "30 words, 3 states, 11 edges, page ab.cd, found 1/2 29/5");
        CHECKS.dueThrow(what, thrown, () -> call.accept(s));
        CHECKS.due("after " + what, look(s), before);
        CHECKS.due("the text after " + what, s.split(""), "2:ef.ab");
    }

    private static String look(Store s) {
        return s.x.words() + " words, " + s.x.states() + " states, " + s.x.edges() + " edges, page " + s.page()
            + ", found " + s.found();
    }
}
