import java.util.ArrayList;
import java.util.HashMap;
import java.util.HashSet;
import java.util.List;
import java.util.Map;
import java.util.Set;
import java.util.TreeSet;

/** What the document says, written down as directly as can be: a set of words, looked through anew each time. */
final class PlainStore {
    private final TreeSet<String> held = new TreeSet<>();
    private String text = "";
    private String page = "";
    private List<int[]> found = new ArrayList<>();

    boolean type(char c) {
        boolean takes = c >= 32 && c <= 126 && text.length() < 60;
        text = takes ? text + c : text;
        return takes;
    }

    private String take() {
        String taken = text;
        text = "";
        return taken;
    }

    int wipe() {
        return take().length();
    }

    int add() {
        if (held.size() == 30) {
            throw new IllegalStateException();
        }
        String word = take();
        if (!word.matches("[a-h]{1,7}")) {
            return -1;
        }
        if (!held.add(word)) {
            return 0;
        }
        found.clear();
        return 1;
    }

    boolean remove() {
        boolean was = held.remove(take());
        if (was) {
            found.clear();
        }
        return was;
    }

    int words() {
        return held.size();
    }

    private List<String> inOrder() {
        return new ArrayList<>(held);
    }

    int word(int i) {
        if (i < 0 || i >= held.size()) {
            throw new IndexOutOfBoundsException();
        }
        page = inOrder().get(i);
        return page.length();
    }

    int rank() {
        return inOrder().indexOf(take());
    }

    int starting() {
        String start = take();
        return (int) held.stream().filter(word -> word.startsWith(start)).count();
    }

    int longest() {
        String row = take();
        for (int end = row.length(); end >= 1; end--) {
            if (held.contains(row.substring(0, end))) {
                return inOrder().indexOf(row.substring(0, end));
            }
        }
        return -1;
    }

    /** For each prefix the rows that, put behind it, make held words. */
    private Map<String, Set<String>> endings() {
        Map<String, Set<String>> endings = new HashMap<>();
        endings.put("", new HashSet<>(held));
        for (String word : held) {
            for (int end = 0; end <= word.length(); end++) {
                endings.computeIfAbsent(word.substring(0, end), p -> new HashSet<>()).add(word.substring(end));
            }
        }
        return endings;
    }

    int states() {
        return new HashSet<>(endings().values()).size();
    }

    int edges() {
        Map<String, Set<String>> endings = endings();
        Set<List<Object>> edges = new HashSet<>();
        for (String prefix : endings.keySet()) {
            for (char letter = 'a'; letter <= 'h'; letter++) {
                if (endings.containsKey(prefix + letter)) {
                    edges.add(List.of(endings.get(prefix), letter, endings.get(prefix + letter)));
                }
            }
        }
        return edges.size();
    }

    int alike() {
        Map<String, Set<String>> endings = endings();
        Set<String> mine = endings.get(take());
        return mine == null ? -1 : (int) endings.values().stream().filter(mine::equals).count();
    }

    int near(int most) {
        if (most < 0 || most > 2) {
            throw new IllegalArgumentException();
        }
        String row = take();
        found = new ArrayList<>();
        List<String> words = inOrder();
        for (int i = 0; i < words.size(); i++) {
            int distance = distance(words.get(i), row);
            if (distance <= most) {
                found.add(new int[] {i, distance});
            }
        }
        return found.size();
    }

    private static int distance(String one, String other) {
        int[][] far = new int[one.length() + 1][other.length() + 1];
        for (int i = 0; i <= one.length(); i++) {
            for (int j = 0; j <= other.length(); j++) {
                if (i == 0 || j == 0) {
                    far[i][j] = i + j;
                } else {
                    int change = one.charAt(i - 1) == other.charAt(j - 1) ? 0 : 1;
                    int leave = Math.min(far[i - 1][j], far[i][j - 1]) + 1;
                    far[i][j] = Math.min(far[i - 1][j - 1] + change, leave);
                }
            }
        }
        return far[one.length()][other.length()];
    }

    int scan() {
        String row = take();
        found = new ArrayList<>();
        List<String> words = inOrder();
        for (int end = 1; end <= row.length(); end++) {
            for (int start = 0; start < end; start++) {
                int number = words.indexOf(row.substring(start, end));
                if (number >= 0) {
                    found.add(new int[] {number, end});
                }
            }
        }
        return found.size();
    }

    int found(int k, int what) {
        if (k < 0 || k >= found.size()) {
            throw new IndexOutOfBoundsException();
        }
        if (what < 0 || what > 1) {
            throw new IllegalArgumentException();
        }
        return found.get(k)[what];
    }

    long splits() {
        String row = take();
        long[] ways = new long[row.length() + 1];
        ways[0] = 1;
        for (int end = 1; end <= row.length(); end++) {
            for (String word : held) {
                if (row.substring(0, end).endsWith(word)) {
                    ways[end] += ways[end - word.length()];
                }
            }
        }
        return ways[row.length()];
    }

    int split() {
        String row = take();
        List<List<String>> best = new ArrayList<>();
        best.add(List.of());
        for (int size = 1; size <= row.length(); size++) {
            String rest = row.substring(row.length() - size);
            List<String> chosen = null;
            for (String word : held) {
                if (rest.startsWith(word) && best.get(size - word.length()) != null) {
                    List<String> candidate = new ArrayList<>(List.of(word));
                    candidate.addAll(best.get(size - word.length()));
                    chosen = chosen == null || isBetter(candidate, chosen) ? candidate : chosen;
                }
            }
            best.add(chosen);
        }
        List<String> words = best.get(row.length());
        if (words == null) {
            return -1;
        }
        page = String.join(".", words);
        return words.size();
    }

    private static boolean isBetter(List<String> one, List<String> other) {
        if (one.size() != other.size()) {
            return one.size() < other.size();
        }
        for (int n = 0; n < one.size(); n++) {
            if (one.get(n).length() != other.get(n).length()) {
                return one.get(n).length() > other.get(n).length();
            }
        }
        return false;
    }

    int length() {
        return page.length();
    }

    char charAt(int p) {
        return p >= 0 && p < page.length() ? page.charAt(p) : ' ';
    }
}
