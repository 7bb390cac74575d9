/** Each promise of the document by itself: ordinary inputs, the edges that it names, wrong inputs. */
public final class PromisesTest {
    private static final Class<IllegalStateException> STATE = IllegalStateException.class;
    private static final Class<IllegalArgumentException> ARGUMENT = IllegalArgumentException.class;
    private static final Class<IndexOutOfBoundsException> INDEX = IndexOutOfBoundsException.class;
    private static final Checks CHECKS = new Checks();

    private PromisesTest() {
    }

    public static void main(String[] args) {
        newObject();
        type();
        wipe();
        add();
        addWhenFull();
        remove();
        words();
        word();
        rank();
        starting();
        longest();
        states();
        statesWhileWordsComeAndGo();
        edges();
        alike();
        near();
        nearWrong();
        scan();
        scanLinks();
        found();
        foundIsEmptied();
        splits();
        split();
        splitPrefers();
        length();
        charAt();
        textIsUsedUp();
        textIsKept();
        pageIsKept();
        objectsAreApart();
        largestTree();
        largestTreeCutDown();
        CHECKS.end();
    }

    private static void newObject() {
        Store s = new Store();
        CHECKS.due("1 words", s.x.words(), 0);
        CHECKS.due("1 page", s.x.length(), 0);
        CHECKS.due("1 states", s.x.states(), 1);
        CHECKS.due("1 edges", s.x.edges(), 0);
        CHECKS.due("1 found", s.found(), "");
        CHECKS.due("1 text", s.x.wipe(), 0);
        CHECKS.due("1 NONE", SharedEndings.NONE, -1);
    }

    private static void type() {
        for (int c = 0; c <= 65535; c++) {
            SharedEndings x = new SharedEndings();
            CHECKS.due("2 type of code " + c, x.type((char) c), c >= 32 && c <= 126);
            CHECKS.due("2 typed of code " + c, x.wipe(), c >= 32 && c <= 126 ? 1 : 0);
        }
        Store s = new Store();
        for (int n = 1; n <= 60; n++) {
            CHECKS.due("2 type number " + n, s.x.type('a'), true);
        }
        CHECKS.due("2 type number 61", s.x.type('a'), false);
        CHECKS.due("2 wrong type number 61", s.x.type((char) 31), false);
        CHECKS.due("2 the text stays", s.x.wipe(), 60);
        CHECKS.due("2 type again", s.x.type('~'), true);
        CHECKS.due("2 appended", Store.with("ab", "ba").rank("ba"), 1);
    }

    private static void wipe() {
        Store s = Store.with("ab");
        CHECKS.due("3 wipe", s.type("ab?").x.wipe(), 3);
        CHECKS.due("3 wipe again", s.x.wipe(), 0);
        CHECKS.due("3 nothing left of it", s.rank("ab"), 0);
        CHECKS.due("3 wipe of sixty", s.type(Samples.SIXTY).x.wipe(), 60);
        CHECKS.due("3 words stay", s.x.words(), 1);
        s.scan("abab");
        s.type("ab").x.wipe();
        CHECKS.due("3 found stays", s.found(), "0/2 0/4");
    }

    private static void add() {
        Store s = new Store();
        CHECKS.due("4 add", s.add("abc"), 1);
        CHECKS.due("4 add again", s.add("abc"), 0);
        CHECKS.due("4 add of a beginning", s.add("ab"), 1);
        CHECKS.due("4 add of the empty row", s.add(""), -1);
        CHECKS.due("4 add of seven letters", s.add("abcdefg"), 1);
        CHECKS.due("4 add of eight letters", s.add("abcdefga"), -1);
        CHECKS.due("4 add of h", s.add("h"), 1);
        CHECKS.due("4 add of i", s.add("i"), -1);
        CHECKS.due("4 add of a capital", s.add("A"), -1);
        CHECKS.due("4 add of `", s.add("`"), -1);
        CHECKS.due("4 add with a space", s.add("a b"), -1);
        CHECKS.due("4 add of sixty", s.add(Samples.SIXTY), -1);
        CHECKS.due("4 words", s.x.words(), 4);
    }

    private static void addWhenFull() {
        Store s = Samples.full();
        CHECKS.due("4 thirty", s.x.words(), 30);
        String[] texts = {"h", "aa", "", "zz", "abcdefgh"};
        for (String text : texts) {
            CHECKS.dueThrow("4 add of " + text + " when full", STATE, () -> s.add(text));
            CHECKS.due("4 the text stays", s.x.wipe(), text.length());
        }
        s.scan("aa");
        CHECKS.dueThrow("4 add when full", STATE, s.x::add);
        CHECKS.due("4 found stays", s.found(), "0/2");
        CHECKS.due("4 still thirty", s.x.words(), 30);
        CHECKS.due("4 remove when full", s.remove("ef"), true);
        CHECKS.due("4 known word with 29", s.add("aa"), 0);
        CHECKS.due("4 no word with 29", s.add("i"), -1);
        CHECKS.due("4 the thirtieth again", s.add("abcdefg"), 1);
        CHECKS.dueThrow("4 add when full again", STATE, () -> s.add("ef"));
    }

    private static void remove() {
        Store s = Store.with("ab", "abc", "b");
        CHECKS.due("5 remove of no word", s.remove("i"), false);
        CHECKS.due("5 remove of the empty row", s.remove(""), false);
        CHECKS.due("5 remove of a prefix", s.remove("a"), false);
        CHECKS.due("5 remove of a longer row", s.remove("abcd"), false);
        CHECKS.due("5 remove of sixty", s.remove(Samples.SIXTY), false);
        CHECKS.due("5 nothing is gone", s.x.words(), 3);
        CHECKS.due("5 remove", s.remove("ab"), true);
        CHECKS.due("5 remove again", s.remove("ab"), false);
        CHECKS.due("5 the longer word stays", s.rank("abc"), 0);
        CHECKS.due("5 the other stays", s.rank("b"), 1);
        CHECKS.due("5 add after remove", s.add("ab"), 1);
        CHECKS.due("5 remove of the longer", s.remove("abc"), true);
        CHECKS.due("5 the shorter stays", s.rank("ab"), 0);
        CHECKS.due("5 no prefix is left over", s.alike("abc"), -1);
    }

    private static void words() {
        Store s = new Store();
        s.add("a");
        s.add("aa");
        CHECKS.due("6 two", s.x.words(), 2);
        s.add("aa");
        s.add("x");
        CHECKS.due("6 still two", s.x.words(), 2);
        s.remove("a");
        CHECKS.due("6 one", s.x.words(), 1);
        s.remove("a");
        CHECKS.due("6 still one", s.x.words(), 1);
    }

    private static void word() {
        Store s = Store.with("b", "ab", "abcdefg", "aac", "a", "ha");
        String[] order = {"1:a", "3:aac", "2:ab", "7:abcdefg", "1:b", "2:ha"};
        for (int i = 0; i < order.length; i++) {
            CHECKS.due("7 word " + i, s.word(i), order[i]);
        }
        CHECKS.due("7 a shorter one instead", s.word(0), "1:a");
        int[] wrong = {-1, 6, 30, Integer.MIN_VALUE, Integer.MAX_VALUE};
        for (int i : wrong) {
            CHECKS.dueThrow("7 word " + i, INDEX, () -> s.x.word(i));
        }
        CHECKS.due("7 the page stays", s.page(), "a");
        CHECKS.dueThrow("7 word of none", INDEX, () -> new SharedEndings().word(0));
    }

    private static void rank() {
        Store s = Store.with("b", "ab", "aac", "a");
        CHECKS.due("8 a", s.rank("a"), 0);
        CHECKS.due("8 aac", s.rank("aac"), 1);
        CHECKS.due("8 ab", s.rank("ab"), 2);
        CHECKS.due("8 b", s.rank("b"), 3);
        CHECKS.due("8 a prefix", s.rank("aa"), -1);
        CHECKS.due("8 the empty row", s.rank(""), -1);
        CHECKS.due("8 no word", s.rank("b "), -1);
        CHECKS.due("8 a longer row", s.rank("abc"), -1);
        s.remove("aac");
        CHECKS.due("8 b after a remove", s.rank("b"), 2);
    }

    private static void starting() {
        Store s = Store.with("a", "ab", "abc", "abd", "b");
        CHECKS.due("9 the empty row", s.starting(""), 5);
        CHECKS.due("9 a", s.starting("a"), 4);
        CHECKS.due("9 ab", s.starting("ab"), 3);
        CHECKS.due("9 abc", s.starting("abc"), 1);
        CHECKS.due("9 abcd", s.starting("abcd"), 0);
        CHECKS.due("9 c", s.starting("c"), 0);
        CHECKS.due("9 a?", s.starting("a?"), 0);
        CHECKS.due("9 sixty", s.starting(Samples.SIXTY), 0);
        CHECKS.due("9 none held", new Store().starting(""), 0);
    }

    private static void longest() {
        Store s = Store.with("a", "abc", "abcdefg", "b", "cd");
        CHECKS.due("10 a", s.longest("a"), 0);
        CHECKS.due("10 ab", s.longest("ab"), 0);
        CHECKS.due("10 abcdef", s.longest("abcdef"), 1);
        CHECKS.due("10 abcdefgabc", s.longest("abcdefgabc"), 2);
        CHECKS.due("10 a?bc", s.longest("a?bc"), 0);
        CHECKS.due("10 c", s.longest("c"), -1);
        CHECKS.due("10 ?a", s.longest("?a"), -1);
        CHECKS.due("10 the empty row", s.longest(""), -1);
        CHECKS.due("10 sixty", s.longest(Samples.SIXTY), 0);
    }

    private static void states() {
        CHECKS.due("11 endings shared", Store.with("abc", "dbc").x.states(), 4);
        CHECKS.due("11 endings not alike", Store.with("abc", "dbc", "ab").x.states(), 6);
        CHECKS.due("11 one letter", Store.with("a", "b", "h").x.states(), 2);
        CHECKS.due("11 a chain", Store.with("a", "aa", "aaa").x.states(), 4);
        CHECKS.due("11 seven letters", Store.with("abcdefg").x.states(), 8);
        CHECKS.due("11 full", Samples.full().x.states(), 3);
    }

    private static void statesWhileWordsComeAndGo() {
        Store s = Store.with("abc", "dbc");
        s.add("ab");
        s.remove("ab");
        CHECKS.due("11 shared again", s.x.states(), 4);
        CHECKS.due("12 shared again", s.x.edges(), 4);
        s.remove("dbc");
        CHECKS.due("11 one word", s.x.states(), 4);
        CHECKS.due("12 one word", s.x.edges(), 3);
        s.remove("abc");
        CHECKS.due("11 none", s.x.states(), 1);
        CHECKS.due("12 none", s.x.edges(), 0);
    }

    private static void edges() {
        CHECKS.due("12 endings shared", Store.with("abc", "dbc").x.edges(), 4);
        CHECKS.due("12 one letter", Store.with("a", "b", "h").x.edges(), 3);
        CHECKS.due("12 a chain", Store.with("a", "aa", "aaa").x.edges(), 3);
        CHECKS.due("12 bad, bed, bead, head, had", Store.with("bad", "bed", "bead", "head", "had").x.edges(), 10);
        CHECKS.due("12 full", Samples.full().x.edges(), 11);
    }

    private static void alike() {
        Store s = Store.with("abc", "dbc", "abd", "dbd", "e");
        CHECKS.due("13 a", s.alike("a"), 2);
        CHECKS.due("13 db", s.alike("db"), 2);
        CHECKS.due("13 abc", s.alike("abc"), 5);
        CHECKS.due("13 the empty row", s.alike(""), 1);
        CHECKS.due("13 no prefix", s.alike("ac"), -1);
        CHECKS.due("13 behind a word", s.alike("ea"), -1);
        CHECKS.due("13 no letters", s.alike("a."), -1);
        s.add("ab");
        CHECKS.due("13 a, not alike any more", s.alike("a"), 1);
        s.remove("ab");
        CHECKS.due("13 a, alike again", s.alike("a"), 2);
        CHECKS.due("13 no word held, the empty row", new Store().alike(""), 1);
        CHECKS.due("13 no word held, a", new Store().alike("a"), -1);
    }

    private static void near() {
        Store s = Store.with("bad", "bed", "bead", "head", "had", "a", "abcdefg");
        CHECKS.due("14 near 0", s.near("bad", 0), 1);
        CHECKS.due("14 found 0", s.found(), "2/0");
        CHECKS.due("14 near 1", s.near("bad", 1), 4);
        CHECKS.due("14 found 1", s.found(), "2/0 3/1 4/1 5/1");
        CHECKS.due("14 near 2", s.near("bad", 2), 6);
        CHECKS.due("14 found 2", s.found(), "0/2 2/0 3/1 4/1 5/1 6/2");
        CHECKS.due("14 near of the empty row", s.near("", 1), 1);
        CHECKS.due("14 found of the empty row", s.found(), "0/1");
        CHECKS.due("14 near with other characters", s.near("B?d", 2), 3);
        CHECKS.due("14 found with other characters", s.found(), "2/2 4/2 5/2");
        CHECKS.due("14 near of nine", s.near("xabcdefgx", 2), 1);
        CHECKS.due("14 found of nine", s.found(), "1/2");
        CHECKS.due("14 two changed places", s.near("bacdefg", 2), 1);
        CHECKS.due("14 none", s.near("zzzz", 2), 0);
        CHECKS.due("14 found none", s.found(), "");
        CHECKS.due("14 sixty", s.near(Samples.SIXTY, 2), 0);
        Store full = Samples.full();
        CHECKS.due("14 all", full.near("ab", 2), 30);
    }

    private static void nearWrong() {
        Store s = Store.with("ab");
        s.scan("ab");
        int[] wrong = {-1, 3, Integer.MIN_VALUE, Integer.MAX_VALUE};
        for (int most : wrong) {
            CHECKS.dueThrow("14 near " + most, ARGUMENT, () -> s.near("b", most));
        }
        CHECKS.due("14 found stays", s.found(), "0/2");
        CHECKS.due("14 the text stays", s.x.wipe(), 4);
    }

    private static void scan() {
        Store s = Store.with("a", "aa", "aaa");
        CHECKS.due("15 scan", s.scan("aaaa"), 9);
        CHECKS.due("15 longest first", s.found(), "0/1 1/2 0/2 2/3 1/3 0/3 2/4 1/4 0/4");
        CHECKS.due("15 other characters between", s.scan("a a?ba"), 3);
        CHECKS.due("15 found between", s.found(), "0/1 0/3 0/6");
        CHECKS.due("15 scan of the empty row", s.scan(""), 0);
        CHECKS.due("15 found nothing", s.found(), "");
        Store seven = Store.with(Samples.CHAIN);
        CHECKS.due("15 the most there can be", seven.scan(Samples.SIXTY), 399);
        CHECKS.due("15 the last of them", seven.x.found(398, 0), 0);
        CHECKS.due("15 its place", seven.x.found(398, 1), 60);
        CHECKS.dueThrow("15 no more", INDEX, () -> seven.x.found(399, 0));
    }

    private static void scanLinks() {
        Store s = Store.with("abcab", "bcab", "cab", "ab", "b");
        CHECKS.due("15 nested endings", s.scan("abcabcab"), 12);
        CHECKS.due("15 their order", s.found(), "0/2 2/2 1/5 3/5 4/5 0/5 2/5 1/8 3/8 4/8 0/8 2/8");
        Store far = Store.with("abcde", "cdf", "e", "def");
        CHECKS.due("15 a word that breaks off", far.scan("abcdf"), 1);
        CHECKS.due("15 the one inside", far.found(), "1/5");
        CHECKS.due("15 overlapping words", far.scan("abcdef"), 3);
        CHECKS.due("15 by the places behind them", far.found(), "0/5 3/5 2/6");
        far.remove("e");
        CHECKS.due("15 after a remove", far.scan("abcdef"), 2);
        CHECKS.due("15 without the removed", far.found(), "0/5 2/6");
    }

    private static void found() {
        Store s = Store.with("ab", "b");
        CHECKS.due("16 scan", s.scan(" ab"), 2);
        CHECKS.due("16 number", s.x.found(0, 0), 0);
        CHECKS.due("16 place behind", s.x.found(0, 1), 3);
        CHECKS.due("16 the second", s.x.found(1, 0), 1);
        int[] wrong = {-1, 2, Integer.MIN_VALUE, Integer.MAX_VALUE};
        for (int n : wrong) {
            CHECKS.dueThrow("16 found(" + n + ", 0)", INDEX, () -> s.x.found(n, 0));
            CHECKS.dueThrow("16 found(0, " + n + ")", ARGUMENT, () -> s.x.found(0, n));
            CHECKS.dueThrow("16 both wrong: the first that the document names", INDEX, () -> s.x.found(n, n));
        }
        CHECKS.due("16 near instead", s.near("b", 1), 2);
        CHECKS.due("16 distance", s.x.found(0, 1), 1);
        CHECKS.due("16 distance of the second", s.x.found(1, 1), 0);
        CHECKS.dueThrow("16 nothing found", INDEX, () -> new SharedEndings().found(0, 0));
    }

    private static void foundIsEmptied() {
        Store s = Store.with("ab", "b");
        s.scan("ab");
        s.add("b");
        s.add("i");
        s.remove("a");
        s.rank("ab");
        s.splits("ab");
        s.split("ab");
        CHECKS.due("16 stays while no word comes or goes", s.found(), "0/2 1/2");
        s.add("c");
        CHECKS.due("16 empty when a word is added", s.found(), "");
        s.near("b", 0);
        CHECKS.due("16 near", s.found(), "1/0");
        s.remove("c");
        CHECKS.due("16 empty when a word is removed", s.found(), "");
    }

    private static void splits() {
        Store s = Store.with("a", "aa", "aaa");
        CHECKS.due("17 six", s.splits("aaaaaa"), 24);
        CHECKS.due("17 the empty row", s.splits(""), 1);
        CHECKS.due("17 one", s.splits("a"), 1);
        CHECKS.due("17 no split", s.splits("aab"), 0);
        CHECKS.due("17 none at the start", s.splits("baa"), 0);
        CHECKS.due("17 other characters", s.splits("a a"), 0);
        CHECKS.due("17 none held", new Store().splits("a"), 0);
        CHECKS.due("17 none held, the empty row", new Store().splits(""), 1);
        Store seven = Store.with(Samples.CHAIN);
        CHECKS.due("17 beyond an int", seven.splits(Samples.SIXTY), sevenStepSum(60));
    }

    private static long sevenStepSum(int n) {
        long[] sums = new long[n + 1];
        sums[0] = 1;
        for (int k = 1; k <= n; k++) {
            for (int step = 1; step <= 7 && step <= k; step++) {
                sums[k] += sums[k - step];
            }
        }
        return sums[n];
    }

    private static void split() {
        Store s = Store.with("a", "aa", "aaa");
        CHECKS.due("18 two", s.split("aaaaaa"), "2:aaa.aaa");
        CHECKS.due("18 one", s.split("aa"), "1:aa");
        CHECKS.due("18 none, the page stays", s.split("aab"), "-1:aa");
        CHECKS.due("18 other characters, the page stays", s.split("a.a"), "-1:aa");
        CHECKS.due("18 the empty row", s.split(""), "0:");
        Store one = Store.with("a");
        CHECKS.due("18 the longest page", one.split(Samples.SIXTY), "60:" + "a.".repeat(59) + "a");
        CHECKS.due("18 none held", new Store().split("a"), "-1:");
    }

    private static void splitPrefers() {
        CHECKS.due("18 fewest before longest", Store.with("abc", "a", "bcd", "d", "e", "de", "bcde").split("abcde"), "2:abc.de");
        CHECKS.due("18 fewest, a short first word", Store.with("abc", "a", "d", "e", "bcde").split("abcde"), "2:a.bcde");
        CHECKS.due("18 first word longest", Store.with("a", "aa", "aaa").split("aaaa"), "2:aaa.a");
        CHECKS.due("18 second word longest", Store.with("ab", "c", "cd", "cde", "def", "ef", "f").split("abcdef"), "3:ab.cde.f");
        CHECKS.due("18 longest leads nowhere", Store.with("ab", "abc", "cd").split("abcd"), "2:ab.cd");
    }

    private static void length() {
        Store s = Store.with("abcdefg", "b");
        s.x.word(0);
        CHECKS.due("19 of a word", s.x.length(), 7);
        s.split("bb");
        CHECKS.due("19 of a split", s.x.length(), 3);
        s.split("");
        CHECKS.due("19 of the empty split", s.x.length(), 0);
    }

    private static void charAt() {
        Store s = Store.with("ab", "abcdefg");
        CHECKS.due("20 empty page", s.x.charAt(0), ' ');
        s.x.word(1);
        CHECKS.due("20 first", s.x.charAt(0), 'a');
        CHECKS.due("20 last", s.x.charAt(6), 'g');
        s.x.word(0);
        int[] none = {-1, 2, 6, 119, Integer.MIN_VALUE, Integer.MAX_VALUE};
        for (int p : none) {
            CHECKS.due("20 charAt " + p, s.x.charAt(p), ' ');
        }
        s.split("abab");
        CHECKS.due("20 a point", s.x.charAt(2), '.');
    }

    private static void textIsUsedUp() {
        Store s = Store.with("ab");
        s.add("abc");
        CHECKS.due("text after add 1", s.x.wipe(), 0);
        s.add("abc");
        CHECKS.due("text after add 0", s.x.wipe(), 0);
        s.add("?");
        CHECKS.due("text after add NONE", s.x.wipe(), 0);
        s.remove("abc");
        CHECKS.due("text after remove", s.x.wipe(), 0);
        s.remove("abc");
        CHECKS.due("text after remove of nothing", s.x.wipe(), 0);
        s.rank("ab");
        CHECKS.due("text after rank", s.x.wipe(), 0);
        s.starting("ab");
        CHECKS.due("text after starting", s.x.wipe(), 0);
        s.longest("ab");
        CHECKS.due("text after longest", s.x.wipe(), 0);
        s.alike("ab");
        CHECKS.due("text after alike", s.x.wipe(), 0);
        s.near("ab", 1);
        CHECKS.due("text after near", s.x.wipe(), 0);
        s.scan("ab");
        CHECKS.due("text after scan", s.x.wipe(), 0);
        s.splits("ab");
        CHECKS.due("text after splits", s.x.wipe(), 0);
        s.split("ab");
        CHECKS.due("text after split", s.x.wipe(), 0);
        s.split("a");
        CHECKS.due("text after no split", s.x.wipe(), 0);
    }

    private static void textIsKept() {
        Store s = Store.with("ab", "b");
        s.scan("ab");
        s.type("ab");
        s.x.words();
        s.x.word(1);
        s.x.states();
        s.x.edges();
        s.x.found(0, 0);
        s.x.length();
        s.x.charAt(0);
        CHECKS.dueThrow("word(2)", INDEX, () -> s.x.word(2));
        CHECKS.dueThrow("found(0, 2)", ARGUMENT, () -> s.x.found(0, 2));
        CHECKS.due("calls that do not use the text", s.x.rank(), 0);
    }

    private static void pageIsKept() {
        Store s = Store.with("ab", "b");
        s.x.word(0);
        s.add("c");
        s.remove("c");
        s.rank("b");
        s.starting("b");
        s.longest("b");
        s.alike("b");
        s.near("b", 2);
        s.scan("b");
        s.splits("b");
        s.type("b").x.wipe();
        CHECKS.due("calls that do not write on the page", s.page(), "ab");
    }

    private static void objectsAreApart() {
        Store one = Store.with("ab");
        Store other = Store.with("c");
        one.type("ab");
        CHECKS.due("texts are apart", other.x.wipe(), 0);
        CHECKS.due("words are apart", other.rank("ab"), -1);
        CHECKS.due("the first is as it was", one.x.rank(), 0);
    }

    private static void largestTree() {
        Store s = Samples.longWords();
        CHECKS.due("6 long words", s.x.words(), 30);
        CHECKS.due("11 states of long words", s.x.states(), 1 + 8 + 30 * 4 + 8 + 1);
        CHECKS.due("12 edges of long words", s.x.edges(), 8 + 30 * 5 + 8);
        for (int n = 2; n < 30; n += 3) {
            CHECKS.due("7 long word " + n, s.word(n), "7:" + Samples.longWord(n));
        }
    }

    private static void largestTreeCutDown() {
        Store s = Samples.longWords();
        for (int n = 0; n < 30; n += 2) {
            CHECKS.due("5 long word " + n, s.remove(Samples.longWord(n)), true);
        }
        CHECKS.due("11 fewer states", s.x.states(), 1 + 8 + 15 * 4 + 4 + 1);
        CHECKS.due("15 scan of long words", s.scan(Samples.longWord(1) + Samples.longWord(2) + Samples.longWord(29)), 2);
        CHECKS.due("15 found long words", s.found(), "0/7 14/21");
    }
}
