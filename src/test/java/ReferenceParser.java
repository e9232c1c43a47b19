import java.util.ArrayList;
import java.util.HashMap;
import java.util.List;
import java.util.Map;

/**
 * Answers as the document says, by another way than the program: each word's derivative is built as
 * a graph of nodes, and the shortest word of that graph is measured. It uses none of the program.
 */
final class ReferenceParser {
    private static final long ENDLESS = Long.MAX_VALUE / 4;

    private final int cells;
    private final int length;
    private final int alphabet;
    private final int[][] content;
    private int root = -1;
    private final List<Integer> input = new ArrayList<>();

    private List<int[]> nodes;
    private Map<Long, Integer> derived;
    private long[] measures;

    ReferenceParser(int cells, int length, int alphabet) {
        this.cells = Math.max(4, Math.min(16, cells));
        this.length = Math.max(4, Math.min(12, length));
        this.alphabet = Math.max(2, Math.min(8, alphabet));
        content = new int[this.cells][3];
        forget();
    }

    int define(int cell, int kind, int left, int right) {
        if (root >= 0) return -3;
        if (!isCell(cell)) return -4;
        if (kind < 0 || kind > 4) return -5;
        if (kind == 2 && !isToken(left)) return -8;
        if (kind >= 3 && !isCell(left)) return -6;
        if (kind >= 3 && !isCell(right)) return -7;
        content[cell] = new int[] {kind, kind >= 2 ? left : 0, kind >= 3 ? right : 0};
        forget();
        return 0;
    }

    int part(int cell, int which) {
        return isCell(cell) ? content[cell][which] : -4;
    }

    int least(int cell) {
        return isCell(cell) ? shown(measures[cell]) : -4;
    }

    int open(int cell) {
        if (root >= 0) return -3;
        if (!isCell(cell)) return -4;
        root = cell;
        input.clear();
        return verdict();
    }

    int close() {
        if (root < 0) return -2;
        root = -1;
        input.clear();
        return 0;
    }

    int root() {
        return root < 0 ? -2 : root;
    }

    int feed(int token) {
        if (root < 0) return -2;
        if (!isToken(token)) return -8;
        if (input.size() == length) return -9;
        input.add(token);
        return verdict();
    }

    int keep(int n) {
        if (root < 0) return -2;
        if (n < 0 || n > input.size()) return -10;
        while (input.size() > n) input.remove(input.size() - 1);
        return verdict();
    }

    int size() {
        return root < 0 ? -2 : input.size();
    }

    int tokenAt(int place) {
        if (root < 0) return -2;
        return place < 0 || place >= input.size() ? -10 : input.get(place);
    }

    int verdict() {
        int missing = shortest();
        if (missing == -2) return -2;
        return missing == 0 ? 3 : missing > 0 ? 2 : 1;
    }

    int shortest() {
        return root < 0 ? -2 : completion(input);
    }

    int ahead(int token) {
        if (root < 0) return -2;
        if (!isToken(token)) return -8;
        List<Integer> word = new ArrayList<>(input);
        word.add(token);
        return completion(word);
    }

    int longest() {
        if (root < 0) return -2;
        int best = -1;
        for (int n = 0; n <= input.size(); n++) {
            if (completion(input.subList(0, n)) == 0) best = n;
        }
        return best;
    }

    int nodeCount() {
        return nodes.size();
    }

    private boolean isCell(int cell) {
        return cell >= 0 && cell < cells;
    }

    private boolean isToken(int token) {
        return token >= 0 && token < alphabet;
    }

    private static int shown(long measure) {
        return measure >= ENDLESS ? -1 : (int) measure;
    }

    private void forget() {
        nodes = new ArrayList<>();
        derived = new HashMap<>();
        for (int[] cell : content) nodes.add(cell);
        measure();
    }

    private int completion(List<Integer> word) {
        int node = root;
        for (int token : word) node = derive(node, token);
        return shown(measures[node]);
    }

    private int derive(int start, int token) {
        int before = nodes.size();
        List<Integer> waiting = new ArrayList<>();
        int result = wanted(start, token, waiting);
        for (int i = 0; i < waiting.size(); i++) {
            int node = waiting.get(i);
            nodes.set(derived.get(key(node, token)), derivative(node, token, waiting));
        }
        if (nodes.size() > before) measure();
        return result;
    }

    private static long key(int node, int token) {
        return node * 8L + token;
    }

    /** The derivative's node, made with no content yet if it is new. */
    private int wanted(int node, int token, List<Integer> waiting) {
        Integer known = derived.get(key(node, token));
        if (known != null) return known;
        nodes.add(new int[] {0, 0, 0});
        derived.put(key(node, token), nodes.size() - 1);
        waiting.add(node);
        return nodes.size() - 1;
    }

    private int[] derivative(int node, int token, List<Integer> waiting) {
        int[] old = nodes.get(node);
        if (old[0] == 2) return new int[] {old[1] == token ? 1 : 0, 0, 0};
        if (old[0] < 2) return new int[] {0, 0, 0};
        int left = wanted(old[1], token, waiting);
        if (old[0] == 3) return new int[] {3, left, wanted(old[2], token, waiting)};
        int[] inLeft = {4, left, old[2]};
        if (measures[old[1]] != 0) return inLeft;
        nodes.add(inLeft);
        int first = nodes.size() - 1;
        return new int[] {3, first, wanted(old[2], token, waiting)};
    }

    private void measure() {
        measures = new long[nodes.size()];
        java.util.Arrays.fill(measures, ENDLESS);
        boolean changed = true;
        while (changed) {
            changed = false;
            for (int node = nodes.size() - 1; node >= 0; node--) {
                long now = measureOf(nodes.get(node));
                if (now < measures[node]) {
                    measures[node] = now;
                    changed = true;
                }
            }
        }
    }

    private long measureOf(int[] node) {
        switch (node[0]) {
            case 1: return 0;
            case 2: return 1;
            case 3: return Math.min(measures[node[1]], measures[node[2]]);
            case 4: return Math.min(ENDLESS, measures[node[1]] + measures[node[2]]);
            default: return ENDLESS;
        }
    }
}
