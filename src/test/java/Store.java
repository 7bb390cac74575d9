/** A SharedEndings with calls that take a whole text, so that a test can be read. */
final class Store {
    final SharedEndings x = new SharedEndings();

    static Store with(String... words) {
        Store store = new Store();
        for (String word : words) {
            if (store.add(word) != 1) {
                throw new IllegalStateException("not added: " + word);
            }
        }
        return store;
    }

    Store type(String text) {
        for (char c : text.toCharArray()) {
            if (!x.type(c)) {
                throw new IllegalStateException("not typed: " + text);
            }
        }
        return this;
    }

    int add(String text) {
        return type(text).x.add();
    }

    boolean remove(String text) {
        return type(text).x.remove();
    }

    int rank(String text) {
        return type(text).x.rank();
    }

    int starting(String text) {
        return type(text).x.starting();
    }

    int longest(String text) {
        return type(text).x.longest();
    }

    int alike(String text) {
        return type(text).x.alike();
    }

    int near(String text, int most) {
        return type(text).x.near(most);
    }

    int scan(String text) {
        return type(text).x.scan();
    }

    long splits(String text) {
        return type(text).x.splits();
    }

    /** How many words, a colon, and the page behind it. */
    String split(String text) {
        return type(text).x.split() + ":" + page();
    }

    String word(int i) {
        return x.word(i) + ":" + page();
    }

    String page() {
        StringBuilder page = new StringBuilder();
        for (int p = 0; p < x.length(); p++) {
            page.append(x.charAt(p));
        }
        return page.toString();
    }

    /** FOUND as number/measure pairs, as far as found answers. */
    String found() {
        StringBuilder found = new StringBuilder();
        for (int k = 0; has(k); k++) {
            found.append(k == 0 ? "" : " ").append(x.found(k, 0)).append('/').append(x.found(k, 1));
        }
        return found.toString();
    }

    private boolean has(int k) {
        try {
            x.found(k, 0);
            return true;
        } catch (IndexOutOfBoundsException e) {
            return false;
        }
    }
}
