import java.util.ArrayDeque;
import java.util.ArrayList;
import java.util.Arrays;
import java.util.HashMap;
import java.util.List;
import java.util.Map;

/**
 * The document once more, as slow and as literal as can be: readings of knots are tried one by one. It has nothing in
 * common with StemmaTree, so that the two may be compared call by call.
 */
final class Model {
    private static final int BAD = -1, STATE = -2, FULL = -3, NONE = -9, LOST = 4;

    private StringBuilder text = new StringBuilder();
    private int[][] told = new int[0][];
    private int places;
    private int theTree;
    private ArrayDeque<Object[]> done = new ArrayDeque<>();
    private List<Integer> seen = new ArrayList<>();
    private Map<Integer, Object[]> images = new HashMap<>();
    private Map<String, int[]> weighed = new HashMap<>();

    int call(String name, int a, int b, int c) {
        switch (name) {
            case "type": return type(a);
            case "clear": return clear();
            case "copies": return copies();
            case "reading": return reading(a, b);
            case "reads": return reads(a, b, c);
            case "chooses": return chooses(a);
            case "betters": return betters();
            case "undo": return undo();
            case "changes": return changes(a, b);
            case "directed": return directed(a, b);
            case "root": return root(a);
            case "rank": return rank(a);
            case "best": return best(a);
            case "fitting": return fitting(a, b);
            case "quarrel": return quarrel(a, b);
            case "shared": return shared(a, b);
            case "mixed": return mixed(a, b);
            case "sees": return sees(a);
            case "forget": return forget();
            case "unseen": return unseen();
            case "keep": return keep(a);
            case "back": return back(a);
            case "count": return count(a);
            default: throw new IllegalArgumentException(name);
        }
    }

    int type(int letter) {
        if (letter < 0 || letter > 255) return BAD;
        if (text.length() == 90) return FULL;
        text.append((char) letter);
        return text.length();
    }

    int clear() {
        int had = text.length();
        text = new StringBuilder();
        return had;
    }

    int copies() {
        List<List<Integer>> items = new ArrayList<>();
        List<Integer> item = null;
        for (int i = 0; i < text.length(); i++) {
            char letter = text.charAt(i);
            if (letter == ' ') continue;
            int reading = "abcd?".indexOf(letter);
            int width = items.isEmpty() ? 8 : items.get(0).size();
            boolean stands;
            if (item == null) {
                stands = letter == 'm' && items.size() < 6;
                item = new ArrayList<>();
            } else if (reading >= 0) {
                stands = item.size() < width;
                item.add(reading);
            } else {
                stands = letter == ';' && (items.isEmpty() ? item.size() > 0 : item.size() == width);
                items.add(item);
                item = null;
            }
            if (!stands) return -10 - i;
        }
        if (item != null) return -10 - text.length();
        told = items.stream().map(r -> r.stream().mapToInt(Integer::intValue).toArray()).toArray(int[][]::new);
        places = told.length == 0 ? 0 : told[0].length;
        text = new StringBuilder();
        theTree = 0;
        done.clear();
        seen.clear();
        images.clear();
        return told.length;
    }

    boolean noCopy(int copy) {
        return copy < 0 || copy >= told.length;
    }

    boolean noPlace(int place) {
        return place < 0 || place >= places;
    }

    boolean noTree(int tree) {
        return tree < 0 || tree >= trees();
    }

    int trees() {
        return new int[] {1, 1, 1, 1, 3, 15, 105}[told.length];
    }

    int reading(int copy, int place) {
        if (noCopy(copy) || noPlace(place)) return BAD;
        return told[copy][place] == LOST ? NONE : told[copy][place];
    }

    int reads(int copy, int place, int reading) {
        if (noCopy(copy) || noPlace(place) || reading < 0 || reading > 4) return BAD;
        int was = told[copy][place];
        if (was == reading) return STATE;
        remember();
        told[copy][place] = reading;
        return was;
    }

    int chooses(int tree) {
        if (noTree(tree)) return BAD;
        if (tree == theTree) return STATE;
        int was = theTree;
        remember();
        theTree = tree;
        return was;
    }

    int betters() {
        int[] weights = {0, 0, 0, 1, 3, 15};
        int[] ways = {0, 0, 0, 3, 5, 7};
        List<Integer> near = new ArrayList<>();
        for (int other = 0; other < trees(); other++) {
            int unlike = 0;
            for (int k = 3; k < told.length; k++) {
                if (other / weights[k] % ways[k] != theTree / weights[k] % ways[k]) unlike++;
            }
            if (unlike == 1) near.add(other);
        }
        int[] by = weigh();
        int least = near.stream().mapToInt(t -> by[t]).min().orElse(1000);
        if (least >= by[theTree]) return STATE;
        remember();
        theTree = near.stream().mapToInt(t -> t).filter(t -> by[t] == least).min().orElseThrow();
        return theTree;
    }

    /** Whole states, so that undo cannot forget a part. */
    void remember() {
        done.addLast(state());
        if (done.size() > 10) done.removeFirst();
    }

    Object[] state() {
        return new Object[] {Arrays.stream(told).map(int[]::clone).toArray(int[][]::new), theTree};
    }

    void restore(Object[] state) {
        told = Arrays.stream((int[][]) state[0]).map(int[]::clone).toArray(int[][]::new);
        theTree = (Integer) state[1];
    }

    int undo() {
        if (done.isEmpty()) return STATE;
        restore(done.removeLast());
        return done.size();
    }

    /** Edges as pairs of ends; knots have the numbers 10 on. */
    List<int[]> edges(int tree) {
        List<int[]> edges = new ArrayList<>();
        if (told.length == 2) edges.add(new int[] {0, 1});
        if (told.length < 3) return edges;
        for (int k = 0; k < 3; k++) edges.add(new int[] {k, 10});
        int[] hung = {tree % 3, tree / 3 % 5, tree / 15 % 7};
        for (int k = 3; k < told.length; k++) {
            int[] parted = edges.get(hung[k - 3]);
            int end = parted[1];
            parted[1] = 8 + k;
            edges.add(new int[] {8 + k, end});
            edges.add(new int[] {8 + k, k});
        }
        return edges;
    }

    static int cost(int from, int to, boolean directed) {
        return from == to ? 0 : directed && from > to ? 2 : 1;
    }

    /** All readings of the knots, and of each copy those that it may have; arcs lead down, if that counts. */
    int least(List<int[]> arcs, int place, boolean directed, boolean rooted) {
        int knots = Math.max(told.length - 2, 0) + (rooted ? 1 : 0);
        int least = 1000;
        for (int code = 0; code < 1 << (2 * knots); code++) {
            int sum = 0;
            for (int[] arc : arcs) {
                int best = 9;
                for (int from = 0; from < 4; from++) {
                    if (!may(arc[0], from, code, place)) continue;
                    for (int to = 0; to < 4; to++) {
                        if (may(arc[1], to, code, place)) best = Math.min(best, cost(from, to, directed));
                    }
                }
                sum += best;
            }
            least = Math.min(least, sum);
        }
        return least;
    }

    boolean may(int node, int reading, int code, int place) {
        if (node >= 10) return (code >> (2 * (node - 10)) & 3) == reading;
        return told[node][place] == reading || told[node][place] == LOST;
    }

    int changesAt(int tree, int place) {
        return least(edges(tree), place, false, false);
    }

    int allChanges(int tree) {
        int sum = 0;
        for (int place = 0; place < places; place++) sum += changesAt(tree, place);
        return sum;
    }

    int[] weigh() {
        return weighed.computeIfAbsent(Arrays.deepToString(told), key -> {
            int[] by = new int[trees()];
            for (int tree = 0; tree < by.length; tree++) by[tree] = allChanges(tree);
            return by;
        });
    }

    int changes(int tree, int place) {
        if (noTree(tree) || place != -1 && noPlace(place)) return BAD;
        return place == -1 ? allChanges(tree) : changesAt(tree, place);
    }

    int directed(int tree, int edge) {
        if (noTree(tree)) return BAD;
        List<int[]> edges = edges(tree);
        if (edge < 0 || edge >= edges.size()) return BAD;
        int root = 10 + Math.max(told.length - 2, 0);
        List<int[]> arcs = new ArrayList<>();
        for (int end : edges.get(edge)) {
            arcs.add(new int[] {root, end});
            addArcs(edges, end, edges.get(edge), arcs);
        }
        int sum = 0;
        for (int place = 0; place < places; place++) sum += least(arcs, place, true, true);
        return sum;
    }

    void addArcs(List<int[]> edges, int node, int[] above, List<int[]> arcs) {
        for (int[] edge : edges) {
            if (edge == above || edge[0] != node && edge[1] != node) continue;
            int lower = edge[0] == node ? edge[1] : edge[0];
            arcs.add(new int[] {node, lower});
            addArcs(edges, lower, edge, arcs);
        }
    }

    int root(int tree) {
        if (noTree(tree)) return BAD;
        int best = NONE;
        for (int edge = edges(tree).size() - 1; edge >= 0; edge--) {
            if (best == NONE || directed(tree, edge) <= directed(tree, best)) best = edge;
        }
        return best;
    }

    int rank(int k) {
        if (k < 0) return BAD;
        if (k >= trees()) return NONE;
        int[] by = weigh();
        List<Integer> order = new ArrayList<>();
        for (int tree = 0; tree < by.length; tree++) order.add(tree);
        order.sort((s, t) -> by[s] != by[t] ? by[s] - by[t] : s - t);
        return order.get(k);
    }

    int best(int what) {
        int[] by = weigh();
        int fewest = Arrays.stream(by).min().orElseThrow();
        int bound = 0;
        for (int place = 0; place < places; place++) {
            int at = place;
            bound += Math.max(0, (int) Arrays.stream(told).mapToInt(r -> r[at]).filter(r -> r != LOST).distinct().count() - 1);
        }
        switch (what) {
            case 0: return fewest;
            case 1: return (int) Arrays.stream(by).filter(n -> n == fewest).count();
            case 2: return bound;
            case 3: return bound == fewest ? 1 : 0;
            default: return BAD;
        }
    }

    int changesWith(int copy, int place, int reading) {
        int was = told[copy][place];
        told[copy][place] = reading;
        int changes = changesAt(theTree, place);
        told[copy][place] = was;
        return changes;
    }

    int fitting(int copy, int place) {
        if (noCopy(copy) || noPlace(place)) return BAD;
        if (told[copy][place] != LOST) return NONE;
        int bits = 0;
        for (int r = 0; r < 4; r++) {
            if (changesWith(copy, place, r) <= changesAt(theTree, place)) bits += 1 << r;
        }
        return bits;
    }

    int quarrel(int place, int other) {
        if (noPlace(place) || noPlace(other) || place == other) return BAD;
        for (int r = 0; r < 4; r++) for (int s = 0; s < 4; s++) for (int t = 0; t < 4; t++) for (int u = 0; u < 4; u++) {
            if (r != s && t != u && tells(place, r, other, t) && tells(place, r, other, u)
                    && tells(place, s, other, t) && tells(place, s, other, u)) return 1;
        }
        return 0;
    }

    boolean tells(int place, int r, int other, int s) {
        return Arrays.stream(told).anyMatch(row -> row[place] == r && row[other] == s);
    }

    int shared(int place, int copy) {
        if (noCopy(copy) || noPlace(place)) return BAD;
        int bits = 0;
        for (int other = 0; other < told.length; other++) {
            if (told[copy][place] != LOST && told[other][place] == told[copy][place]) bits += 1 << other;
        }
        return bits;
    }

    boolean unlike(int copy, int other, int place) {
        return told[copy][place] != LOST && told[other][place] != LOST && told[copy][place] != told[other][place];
    }

    int mixed(int copy, int what) {
        if (noCopy(copy) || what < 0 || what > 4) return BAD;
        int[] found = {NONE, NONE, NONE, NONE, NONE};
        for (int p = 0; p < told.length; p++) {
            if (p == copy) continue;
            int plain = unlikes(copy, p, 0, places);
            if (found[4] == NONE || plain < found[4]) found[4] = plain;
            for (int q = 0; q < told.length; q++) {
                if (q == copy || q == p) continue;
                for (int c = 1; c < places; c++) {
                    int unlikes = unlikes(copy, p, 0, c) + unlikes(copy, q, c, places);
                    if (found[0] == NONE || unlikes < found[0]) {
                        found = new int[] {unlikes, p, q, c, found[4]};
                    }
                }
            }
        }
        return found[what];
    }

    int unlikes(int copy, int other, int from, int to) {
        int sum = 0;
        for (int place = from; place < to; place++) sum += unlike(copy, other, place) ? 1 : 0;
        return sum;
    }

    int sees(int n) {
        if (n < 0 || n > 6) return BAD;
        if (seen.size() == 6) return FULL;
        seen.add(n);
        return seen.size();
    }

    int forget() {
        int had = seen.size();
        seen.clear();
        return had;
    }

    int unseen() {
        int bits = 0;
        for (int copy = 0; copy < told.length; copy++) {
            if (told[copy][0] == LOST) continue;
            boolean some = false;
            for (int r = 0; r < 4; r++) {
                if (r == told[copy][0]) continue;
                int would = changesWith(copy, 0, r);
                some |= seen.stream().allMatch(n -> n == would);
            }
            if (some) bits += 1 << copy;
        }
        return bits;
    }

    int keep(int image) {
        if (image < 0 || image > 1) return BAD;
        images.put(image, state());
        return told.length;
    }

    int back(int image) {
        if (image < 0 || image > 1) return BAD;
        if (!images.containsKey(image)) return STATE;
        restore(images.get(image));
        done.clear();
        return told.length;
    }

    int count(int what) {
        switch (what) {
            case 0: return told.length;
            case 1: return places;
            case 2: return trees();
            case 3: return theTree;
            case 4: return edges(theTree).size();
            case 5: return (int) Arrays.stream(told).flatMapToInt(Arrays::stream).filter(r -> r == LOST).count();
            case 6: return quarrels();
            case 7: return seen.size();
            case 8: return text.length();
            case 9: return done.size();
            default: return BAD;
        }
    }

    int quarrels() {
        int twos = 0;
        for (int place = 0; place < places; place++) {
            for (int other = 0; other < place; other++) twos += quarrel(place, other);
        }
        return twos;
    }
}
