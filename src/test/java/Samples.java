/** Texts and stores that several tests look at. */
final class Samples {
    static final String SIXTY = "a".repeat(60);
    static final String[] CHAIN = {"a", "aa", "aaa", "aaaa", "aaaaa", "aaaaaa", "aaaaaaa"};

    private Samples() {
    }

    /** Holds thirty words: a .. e with a .. f behind it. */
    static Store full() {
        Store s = new Store();
        for (char first = 'a'; first <= 'e'; first++) {
            for (char second = 'a'; second <= 'f'; second++) {
                s.add("" + first + second);
            }
        }
        return s;
    }

    static Store longWords() {
        Store s = new Store();
        for (int n = 0; n < 30; n++) {
            s.add(longWord(n));
        }
        return s;
    }

    /** The n-th of thirty words, in their order, that share little: the first letter, the last one. */
    static String longWord(int n) {
        String first = "" + (char) ('a' + n / 4) + (char) ('a' + n % 4);
        String last = "" + (char) ('a' + n / 8) + (char) ('a' + n % 8);
        return first + "aaa" + last;
    }
}
