import java.util.ArrayList;
import java.util.HashMap;
import java.util.HashSet;
import java.util.LinkedList;
import java.util.List;
import java.util.Map;
import java.util.TreeMap;
import java.util.TreeSet;

/**
 * The document once more, written apart from the class and as plainly as can be: words are texts of
 * hexadecimal signs, every deed keeps a copy of all keys, nodes are looked for among all heads.
 */
final class Oracle {
    private static final int BAD = -1, FULL = -2, FINDING = -3, STATE = -4, NONE = -9;

    private final Map<Integer, int[]> rows = new TreeMap<>();
    private final Map<Integer, byte[]> texts = new TreeMap<>();
    /** The keys ahead of any deed, and behind each one. */
    private List<TreeMap<String, Integer>> states = new ArrayList<>();
    private final Map<Integer, List<TreeMap<String, Integer>>> kept = new HashMap<>();
    private TreeMap<String, Integer> nodesOf = null;
    private TreeMap<String, Integer> nodesFound = null;
    private final LinkedList<String> lately = new LinkedList<>();
    private int[] changes = new int[4];
    private int told = 0;
    private int finding = 0;
    private final int[] findings = new int[6];

    Oracle() {
        states.add(new TreeMap<>());
    }

    private TreeMap<String, Integer> keys() {
        return states.get(states.size() - 1);
    }

    private int deeds() {
        return states.size() - 1;
    }

    private int found(int f) {
        finding = f;
        findings[f]++;
        return FINDING;
    }

    private int tell(int what) {
        told = what;
        return 1;
    }

    static String word(int v, int n) {
        if (n < 1 || n > 6 || v < 0 || v >= Math.pow(16, n)) return null;
        StringBuilder s = new StringBuilder(Integer.toHexString(v));
        while (s.length() < n) s.insert(0, '0');
        return s.toString();
    }

    private static String path(int v, int n) {
        return v == 0 && n == 0 ? "" : word(v, n);
    }

    private int tellWord(String w) {
        told = w.length();
        return Integer.parseInt(w, 16);
    }

    static boolean isNode(TreeMap<String, Integer> keys, String path) {
        int children = children(keys, path).size();
        return children >= 2 || children == 1 && keys.containsKey(path);
    }

    static TreeSet<Integer> children(TreeMap<String, Integer> keys, String path) {
        TreeSet<Integer> children = new TreeSet<>();
        for (String k : keys.keySet()) {
            if (k.startsWith(path) && k.length() > path.length()) {
                children.add(Character.digit(k.charAt(path.length()), 16));
            }
        }
        return children;
    }

    /** The paths of all nodes, and how many places each has. */
    static TreeMap<String, Integer> nodes(TreeMap<String, Integer> keys) {
        TreeMap<String, Integer> nodes = new TreeMap<>();
        for (String k : keys.keySet()) {
            for (int n = 0; n <= k.length(); n++) {
                String path = k.substring(0, n);
                if (isNode(keys, path)) {
                    int places = 2;
                    while (places < children(keys, path).size()) places *= 2;
                    nodes.put(path, places);
                }
            }
        }
        return nodes;
    }

    /** No state's keys ever change, so their nodes are looked for once. */
    private TreeMap<String, Integer> nodesNow() {
        if (nodesOf != keys()) {
            nodesOf = keys();
            nodesFound = nodes(nodesOf);
        }
        return nodesFound;
    }

    private static int sum(Iterable<Integer> numbers) {
        int sum = 0;
        for (int x : numbers) sum += x;
        return sum;
    }

    private int prefix(String path) {
        int parent = -1;
        for (String other : nodesNow().keySet()) {
            if (path.startsWith(other) && other.length() < path.length()) parent = Math.max(parent, other.length());
        }
        return parent < 0 ? path.length() : path.length() - (parent + 1);
    }

    int row(int r, int n) {
        if (r < 0 || r > 5 || n > 40) return BAD;
        if (n < 0) return found(5);
        rows.put(r, new int[n]);
        return n;
    }

    int lay(int r, int i, int v) {
        if (r < 0 || r > 5) return BAD;
        int[] row = rows.get(r);
        if (row == null) return found(1);
        if (i < 0 || i >= row.length) return found(2);
        int old = row[i];
        row[i] = v;
        return tell(old);
    }

    int at(int r, int i) {
        if (r < 0 || r > 5) return BAD;
        int[] row = rows.get(r);
        if (row == null) return found(1);
        if (i < 0 || i >= row.length) return found(2);
        return tell(row[i]);
    }

    int tear(int r) {
        if (r < 0 || r > 5) return BAD;
        return rows.remove(r) == null ? found(1) : 1;
    }

    int copy(int r, int i, int to, int j, int n) {
        if (r < 0 || r > 5 || to < 0 || to > 5) return BAD;
        if (n < 0) return found(5);
        if (!rows.containsKey(r) || !rows.containsKey(to)) return found(1);
        int[] from = rows.get(r).clone();
        int[] into = rows.get(to);
        if (i < 0 || j < 0 || (long) i + n > from.length || (long) j + n > into.length) return found(2);
        for (int k = 0; k < n; k++) into[j + k] = from[i + k];
        return 1;
    }

    int mean(int r) {
        if (r < 0 || r > 5) return BAD;
        int[] row = rows.get(r);
        if (row == null) return found(1);
        if (row.length == 0) return found(4);
        java.math.BigInteger sum = java.math.BigInteger.ZERO;
        for (int x : row) sum = sum.add(java.math.BigInteger.valueOf(x));
        return tell(sum.divide(java.math.BigInteger.valueOf(row.length)).intValueExact());
    }

    int text(int t, int n) {
        if (t < 0 || t > 3 || n > 90) return BAD;
        if (n < 0) return found(5);
        byte[] text = new byte[n];
        java.util.Arrays.fill(text, (byte) ' ');
        texts.put(t, text);
        return n;
    }

    int put(int t, int i, int v) {
        if (t < 0 || t > 3) return BAD;
        byte[] text = texts.get(t);
        if (text == null) return found(1);
        if (i < 0 || i >= text.length) return found(2);
        int old = text[i];
        text[i] = (byte) v;
        return old + 1000;
    }

    /** One sign after the other; the keys come into the map; NONE or the place of the fault. */
    static int parse(byte[] text, TreeMap<String, Integer> into) {
        String word = "";
        String value = "";
        int start = 0;
        char state = ' ';
        for (int i = 0; i < text.length; i++) {
            char c = (char) (text[i] & 255);
            boolean figure = "0123456789abcdef".indexOf(c) >= 0;
            boolean decimal = c >= '0' && c <= '9';
            if (state == ' ') {
                if (c == ' ') continue;
                if (!figure) return i;
                start = i;
                word = "" + c;
                state = 'w';
            } else if (state == 'w') {
                if (figure) {
                    if (word.length() == 6) return i;
                    word += c;
                    continue;
                }
                if (into.containsKey(word) || into.size() == 48) return start;
                if (c == '=') {
                    value = "";
                    state = 'v';
                } else {
                    return i;
                }
            } else {
                if (decimal && value.length() < 3) {
                    value += c;
                } else if (c == ';' && !value.isEmpty()) {
                    into.put(word, Integer.valueOf(value));
                    state = ' ';
                } else {
                    return i;
                }
            }
        }
        if (state == 'w' && (into.containsKey(word) || into.size() == 48)) return start;
        return state == ' ' ? NONE : text.length;
    }

    int fault(int t) {
        if (t < 0 || t > 3) return BAD;
        if (!texts.containsKey(t)) return found(1);
        return parse(texts.get(t), new TreeMap<>());
    }

    int index(int t) {
        if (t < 0 || t > 3) return BAD;
        if (!texts.containsKey(t)) return found(1);
        TreeMap<String, Integer> keys = new TreeMap<>();
        if (parse(texts.get(t), keys) != NONE) return STATE;
        states = new ArrayList<>();
        states.add(keys);
        kept.clear();
        lately.clear();
        changes = new int[4];
        return keys.size();
    }

    private void deed(TreeMap<String, Integer> after) {
        TreeMap<String, Integer> was = nodesNow();
        TreeMap<String, Integer> is = nodes(after);
        changes = new int[4];
        for (String p : is.keySet()) {
            if (!was.containsKey(p)) changes[0]++;
            else if (is.get(p) > was.get(p)) changes[2]++;
            else if (is.get(p) < was.get(p)) changes[3]++;
        }
        for (String p : was.keySet()) {
            if (!is.containsKey(p)) changes[1]++;
        }
        states.add(after);
    }

    int enter(int v, int n, int value) {
        String w = word(v, n);
        if (w == null || value < 0 || value > 999) return BAD;
        if (deeds() == 40 || !keys().containsKey(w) && keys().size() == 48) return FULL;
        TreeMap<String, Integer> after = new TreeMap<>(keys());
        Integer old = after.put(w, value);
        deed(after);
        return old == null ? NONE : old;
    }

    int take(int v, int n) {
        String w = word(v, n);
        if (w == null) return BAD;
        if (!keys().containsKey(w)) return STATE;
        if (deeds() == 40) return FULL;
        TreeMap<String, Integer> after = new TreeMap<>(keys());
        int old = after.remove(w);
        deed(after);
        return old;
    }

    int strip(int v, int n) {
        String w = word(v, n);
        if (w == null) return BAD;
        TreeMap<String, Integer> after = new TreeMap<>(keys());
        after.keySet().removeIf(k -> k.startsWith(w));
        int gone = keys().size() - after.size();
        if (gone == 0) return STATE;
        if (deeds() == 40) return FULL;
        deed(after);
        return gone;
    }

    int change(int what) {
        return what < 0 || what > 3 ? BAD : changes[what];
    }

    int undo(int n) {
        if (n < 0 || n > deeds()) return BAD;
        int undone = deeds() - n;
        states = new ArrayList<>(states.subList(0, n + 1));
        changes = new int[4];
        return undone;
    }

    int keep(int k) {
        if (k < 0 || k > 2) return BAD;
        kept.put(k, new ArrayList<>(states));
        return deeds();
    }

    int on(int k) {
        if (k < 0 || k > 2) return BAD;
        if (!kept.containsKey(k)) return found(1);
        states = new ArrayList<>(kept.get(k));
        changes = new int[4];
        return deeds();
    }

    private int nodesOnWayTo(String w) {
        int met = 0;
        for (String p : nodesNow().keySet()) {
            if (w.startsWith(p)) met++;
        }
        return met;
    }

    int find(int v, int n) {
        String w = word(v, n);
        if (w == null) return BAD;
        lately.remove(w);
        lately.addFirst(w);
        if (lately.size() > 6) lately.removeLast();
        told = nodesOnWayTo(w);
        return keys().getOrDefault(w, NONE);
    }

    int longest(int v, int n) {
        String w = word(v, n);
        if (w == null) return BAD;
        int longest = NONE;
        for (String k : keys().keySet()) {
            if (w.startsWith(k)) {
                longest = k.length();
                told = keys().get(k);
            }
        }
        return longest;
    }

    int next(int v, int n) {
        String w = word(v, n);
        if (w == null) return BAD;
        String higher = keys().higherKey(w);
        return higher == null ? NONE : tellWord(higher);
    }

    int nth(int k) {
        if (k < 0 || k >= keys().size()) return BAD;
        return tellWord(new ArrayList<>(keys().keySet()).get(k));
    }

    int rank(int v, int n) {
        String w = word(v, n);
        if (w == null) return BAD;
        told = (int) keys().keySet().stream().filter(k -> k.startsWith(w)).count();
        return keys().headMap(w).size();
    }

    int between(int v, int n, int w, int m) {
        String a = word(v, n);
        String b = word(w, m);
        if (a == null || b == null) return BAD;
        List<Integer> values = new ArrayList<>();
        for (Map.Entry<String, Integer> e : keys().entrySet()) {
            if (e.getKey().compareTo(a) >= 0 && e.getKey().compareTo(b) <= 0) values.add(e.getValue());
        }
        told = sum(values);
        return values.size();
    }

    private static int sizeOf(int places) {
        return places == 2 ? 1 : places == 4 ? 2 : places == 8 ? 3 : 4;
    }

    int node(int v, int n, int what) {
        String p = path(v, n);
        if (p == null || what < 0 || what > 4) return BAD;
        if (!isNode(keys(), p)) return NONE;
        if (what == 0) return tell(sizeOf(nodesNow().get(p)));
        if (what == 1) {
            int bits = 0;
            for (int f : children(keys(), p)) bits += 1 << f;
            return tell(bits);
        }
        if (what == 2) return tell(prefix(p));
        if (what == 3) return tell(keys().containsKey(p) ? 1 : 0);
        return tell((int) keys().keySet().stream().filter(k -> k.startsWith(p)).count());
    }

    int mark(int v, int n, int size) {
        String p = path(v, n);
        if (p == null || size < 1 || size > 4) return BAD;
        if (!isNode(keys(), p)) return NONE;
        TreeSet<Integer> children = children(keys(), p);
        int places = nodesNow().get(p);
        boolean is = size == 1 ? places <= 4 : size == 2 ? places == 4 : size == 3 ? places >= 8 : places == 16;
        if (!is) return found(3);
        if (size == 1) return children.first();
        if (size == 3) return places - children.size();
        if (size == 4) return children.last();
        int none = 0;
        for (int f = children.first(); f <= children.last(); f++) {
            if (!children.contains(f)) none++;
        }
        return none;
    }

    int twins() {
        List<TreeMap<String, Integer>> below = new ArrayList<>();
        for (String p : nodesNow().keySet()) {
            TreeMap<String, Integer> tails = new TreeMap<>();
            keys().forEach((k, value) -> {
                if (k.startsWith(p)) tails.put(k.substring(p.length()), value);
            });
            below.add(tails);
        }
        told = (int) below.stream().filter(b -> java.util.Collections.frequency(below, b) > 1).count();
        return new HashSet<>(below).size();
    }

    int best() {
        if (keys().isEmpty()) return STATE;
        String best = null;
        int fewest = 0;
        for (String k : keys().keySet()) {
            TreeMap<String, Integer> after = new TreeMap<>(keys());
            after.remove(k);
            int places = sum(nodes(after).values());
            if (best == null || places < fewest) {
                best = k;
                fewest = places;
            }
        }
        told = fewest;
        return Integer.parseInt(best, 16);
    }

    int lately(int k) {
        if (k < 0) return BAD;
        return k >= lately.size() ? NONE : tellWord(lately.get(k));
    }

    int lots(int n, int seed) {
        if (n < 1 || n > 20 || seed < 1 || seed == Integer.MAX_VALUE) return BAD;
        if (deeds() + n > 40) return FULL;
        long x = seed;
        for (int i = 0; i < n; i++) {
            x = x * 48271 % 2147483647L;
            String w = "";
            long[] by = {16, 64, 256};
            for (int k = 0; k < x % 3 + 1; k++) w += "012f".charAt((int) (x / by[k] % 4));
            TreeMap<String, Integer> after = new TreeMap<>(keys());
            if (x / 4 % 2 == 0) {
                after.put(w, (int) (x / 8 % 1000));
                if (after.size() > 48) after.remove(w);
            } else {
                after.remove(w);
            }
            states.add(after);
        }
        changes = new int[4];
        return keys().size();
    }

    int asked() {
        return told;
    }

    int count(int what) {
        TreeMap<String, Integer> nodes = nodesNow();
        switch (what) {
            case 0: return keys().size();
            case 1: return nodes.size();
            case 2: case 3: case 4: case 5:
                return (int) nodes.values().stream().filter(places -> sizeOf(places) == what - 1).count();
            case 6: return sum(nodes.values());
            case 7: return keys().keySet().stream().mapToInt(this::nodesOnWayTo).max().orElse(0);
            case 8: return nodes.keySet().stream().mapToInt(this::prefix).max().orElse(0);
            case 9: return deeds();
            case 10: return rows.size();
            case 11: return texts.size();
            case 12: return kept.size();
            case 13: return lately.size();
            default: return BAD;
        }
    }

    int finding() {
        return finding;
    }

    int findings(int f) {
        return f < 1 || f > 5 ? BAD : findings[f];
    }

    long digest() {
        List<Integer> all = new ArrayList<>();
        for (int what = 0; what <= 13; what++) all.add(count(what));
        keys().forEach((k, value) -> {
            all.add(Integer.parseInt(k, 16));
            all.add(k.length());
            all.add(value);
        });
        for (int k = 0; k < 3; k++) all.add(kept.containsKey(k) ? kept.get(k).size() - 1 : -1);
        for (String w : lately) {
            all.add(Integer.parseInt(w, 16));
            all.add(w.length());
        }
        for (int r = 0; r < 6; r++) {
            all.add(rows.containsKey(r) ? rows.get(r).length : -1);
            if (rows.containsKey(r)) for (int x : rows.get(r)) all.add(x);
        }
        for (int t = 0; t < 4; t++) {
            all.add(texts.containsKey(t) ? texts.get(t).length : -1);
            if (texts.containsKey(t)) for (byte x : texts.get(t)) all.add((int) x);
        }
        long h = 17;
        for (int v : all) h = 31 * h + v;
        return h;
    }
}
