import java.util.ArrayList;
import java.util.List;
import java.util.Random;
import java.util.function.LongSupplier;

/** Runs of 512 calls, drawn from fixed seeds, on the class and on the plain store side by side. */
public final class RandomRunsTest {
    private static final int RUNS = 3000;
    private static final int CALLS = 512;
    private static final int[] NUMBERS = {Integer.MIN_VALUE, -1, 0, 1, 2, 3, 29, 30, 31, 119, Integer.MAX_VALUE};
    private static final Checks CHECKS = new Checks();

    private final SharedEndings real = new SharedEndings();
    private final PlainStore plain = new PlainStore();
    private final List<String> added = new ArrayList<>();
    private final Random random;
    private final int seed;
    private final int letters;
    private final int size;
    private final int keeping;
    private final int leaning;
    private int calls;

    private RandomRunsTest(int seed) {
        this.seed = seed;
        random = new Random(seed);
        letters = 1 + random.nextInt(8);
        size = 1 + random.nextInt(7);
        keeping = random.nextInt(4);
        // Rows in which one letter comes again and again have the longest chains of links.
        leaning = random.nextInt(3);
    }

    public static void main(String[] args) {
        for (int seed = 0; seed < RUNS; seed++) {
            new RandomRunsTest(seed).run();
            new RandomRunsTest(RUNS + seed).runFreely();
        }
        CHECKS.end();
    }

    private void run() {
        while (calls < CALLS) {
            if (random.nextInt(2 + keeping) == 0) {
                typeRow(pick());
                same("remove", () -> real.remove() ? 1 : 0, () -> plain.remove() ? 1 : 0);
            } else {
                addWord();
            }
            if (random.nextInt(3) == 0) {
                look();
            }
            automaton();
        }
    }

    /** Any call at any time, so that texts, pages and finds of all kinds stand when a call comes. */
    private void runFreely() {
        while (calls < CALLS) {
            int typed = random.nextInt(2 + keeping);
            typeRow(random.nextInt(8) == 0 ? lookedAt() : row(typed));
            switch (random.nextInt(4)) {
                case 0 -> use(random.nextInt(9));
                case 1 -> look(random.nextInt(5));
                case 2 -> same("remove", () -> real.remove() ? 1 : 0, () -> plain.remove() ? 1 : 0);
                default -> same("add", real::add, plain::add);
            }
        }
    }

    private void addWord() {
        String word = row(1 + random.nextInt(random.nextInt(10) == 0 ? 9 : size));
        added.add(word);
        typeRow(word);
        same("add", real::add, plain::add);
    }

    private void look() {
        typeRow(lookedAt());
        use(random.nextInt(9));
        look(random.nextInt(4));
        same("words", real::words, plain::words);
    }

    private void use(int kind) {
        switch (kind) {
            case 0 -> same("rank", real::rank, plain::rank);
            case 1 -> same("starting", real::starting, plain::starting);
            case 2 -> same("longest", real::longest, plain::longest);
            case 3 -> same("alike", real::alike, plain::alike);
            case 4 -> near();
            case 5 -> same("scan", real::scan, plain::scan);
            case 6 -> same("splits", real::splits, plain::splits);
            case 7 -> same("split", real::split, plain::split);
            default -> same("wipe", real::wipe, plain::wipe);
        }
    }

    private void near() {
        int most = random.nextInt(8) == 0 ? number() : random.nextInt(3);
        same("near " + most, () -> real.near(most), () -> plain.near(most));
    }

    private void look(int kind) {
        for (int n = 0; n < 3; n++) {
            int index = random.nextInt(4) == 0 ? number() : random.nextInt(12);
            int what = random.nextInt(8) == 0 ? number() : random.nextInt(2);
            switch (kind) {
                case 0 -> same("word " + index, () -> real.word(index), () -> plain.word(index));
                case 1 -> same("charAt " + index, () -> real.charAt(index), () -> plain.charAt(index));
                case 2 -> same("length", real::length, plain::length);
                case 4 -> automaton();
                default -> same("found " + index + " " + what, () -> real.found(index, what), () -> plain.found(index, what));
            }
        }
    }

    private void automaton() {
        same("states", real::states, plain::states);
        same("edges", real::edges, plain::edges);
    }

    private int number() {
        return NUMBERS[random.nextInt(NUMBERS.length)];
    }

    private String lookedAt() {
        StringBuilder text = new StringBuilder();
        int parts = random.nextInt(random.nextInt(4) == 0 ? 30 : 4);
        for (int n = 0; n < parts; n++) {
            text.append(pick());
        }
        if (random.nextInt(3) == 0) {
            text.append(row(random.nextInt(3)));
        }
        if (random.nextInt(6) == 0) {
            text.insert(random.nextInt(text.length() + 1), (char) random.nextInt(140));
        }
        return text.toString();
    }

    private String pick() {
        return added.isEmpty() ? row(1) : added.get(random.nextInt(added.size()));
    }

    private String row(int length) {
        StringBuilder row = new StringBuilder();
        for (int n = 0; n < length; n++) {
            row.append(random.nextInt(5) < 2 * leaning ? 'a' : (char) ('a' + random.nextInt(letters)));
        }
        return row.toString();
    }

    private void typeRow(String row) {
        for (char c : row.toCharArray()) {
            same("type " + (int) c, () -> real.type(c) ? 1 : 0, () -> plain.type(c) ? 1 : 0);
        }
    }

    private void same(String call, LongSupplier got, LongSupplier want) {
        if (calls < CALLS) {
            calls++;
            CHECKS.due("seed " + seed + ", call " + calls + ": " + call, answer(got), answer(want));
        }
    }

    private static String answer(LongSupplier call) {
        try {
            return Long.toString(call.getAsLong());
        } catch (RuntimeException e) {
            return e.getClass().getName();
        }
    }
}
