import java.util.ArrayList;
import java.util.HashMap;
import java.util.List;
import java.util.Map;
import java.util.SortedMap;
import java.util.TreeMap;

/**
 * The document once more, with the Java library and texts for bytes: what ModelTest compares the class
 * with. Deltas are kept as rows of pieces here, and nothing is made for speed.
 */
final class Model {
    static final int BAD = -1, NONE = -2, FULL = -3, DOWN = -4;

    /** place below 0: an insert of the text. */
    record Piece(int place, int length, String told) { }

    record Step(int sort, String path, String from, int sourceLength, int sourceSum, int targetLength,
                int targetSum, List<Piece> delta, List<Piece> back) {
        boolean hasSource() { return sort != 0; }
        boolean hasTarget() { return sort != 1; }
    }

    private String tape = "";
    private String hand = "";
    private final List<SortedMap<String, String>> trees = new ArrayList<>();
    private final List<List<Step>> patches = new ArrayList<>();
    private final List<int[]> conflicts = new ArrayList<>();
    private final String[] slots = new String[30];
    private final List<Map<String, Integer>> lists = new ArrayList<>(List.of(new TreeMap<>(), new TreeMap<>()));
    private int counting = 0;
    private int power = -1;
    private int writings = 0;
    private boolean down = false;

    int feed(int a, int b, int c, int d, int e) {
        if (tape.length() > 60) return FULL;
        for (int number : new int[] {a, b, c, d, e}) {
            for (int k = 3; k >= 0; k--) tape += (char) (number >> 8 * k & 255);
        }
        return tape.length();
    }

    int end(int n) {
        if (n < 0 || n > 20 || tape.length() < 20) return BAD;
        tape = tape.substring(0, tape.length() - (20 - n));
        return tape.length();
    }

    int path() {
        String text = tape;
        tape = "";
        if (!text.matches("[a-z]{1,5}(/[a-z]{1,5}){0,2}")) return BAD;
        hand = text;
        return text.split("/").length;
    }

    private boolean noTree(int t) { return t < 0 || t >= trees.size(); }

    private boolean noPatch(int p) { return p < 0 || p >= patches.size(); }

    private int addTree(SortedMap<String, String> tree) {
        trees.add(tree);
        return trees.size() - 1;
    }

    private int addPatch(List<Step> patch) {
        patches.add(patch);
        return patches.size() - 1;
    }

    int tree(int t) {
        if (t != -1 && noTree(t)) return BAD;
        if (trees.size() == 12) return FULL;
        return addTree(t == -1 ? new TreeMap<>() : new TreeMap<>(trees.get(t)));
    }

    private static boolean inTheWay(String one, String two) {
        return one.startsWith(two + "/") || two.startsWith(one + "/");
    }

    int put(int t) {
        if (noTree(t) || hand.isEmpty() || tape.length() > 48) return BAD;
        SortedMap<String, String> tree = trees.get(t);
        for (String other : tree.keySet()) if (inTheWay(other, hand)) return NONE;
        if (!tree.containsKey(hand) && tree.size() == 10) return FULL;
        tree.put(hand, tape);
        tape = "";
        return tree.size();
    }

    int drop(int t) {
        if (noTree(t) || hand.isEmpty() || trees.get(t).remove(hand) == null) return BAD;
        return trees.get(t).size();
    }

    int file(int t, int i, int what) {
        if (noTree(t)) return BAD;
        if (what == 3) return trees.get(t).size();
        if (i < 0 || i >= trees.get(t).size() || what < 0 || what > 3) return BAD;
        String path = new ArrayList<>(trees.get(t).keySet()).get(i);
        String content = trees.get(t).get(path);
        return what == 0 ? path.length() : what == 1 ? content.length() : sum(content);
    }

    int byteOf(int t, int i, int side, int k) {
        if (noTree(t) || i < 0 || i >= trees.get(t).size() || side < 0 || side > 1) return BAD;
        String path = new ArrayList<>(trees.get(t).keySet()).get(i);
        return charOf(side == 0 ? trees.get(t).get(path) : path, k);
    }

    private static int charOf(String text, int k) { return k < 0 || k >= text.length() ? BAD : text.charAt(k); }

    int same(int t, int u) {
        if (noTree(t) || noTree(u)) return BAD;
        return trees.get(t).equals(trees.get(u)) ? 1 : 0;
    }

    int clear() {
        int were = trees.size();
        trees.clear();
        patches.clear();
        return were;
    }

    static int sum(String content) {
        long h = 5381;
        for (char c : content.toCharArray()) h = 33 * h % 65536 ^ c;
        return (int) h;
    }

    // ---- deltas

    static List<Piece> least(String x, String y) {
        int[] cost = new int[y.length() + 1];
        for (int j = y.length() - 1; j >= 0; j--) {
            cost[j] = 2 + cost[j + 1];
            for (int end = j + 1; end <= y.length(); end++) {
                if (x.contains(y.substring(j, end))) cost[j] = Math.min(cost[j], 5 + cost[end]);
            }
        }
        List<Piece> pieces = new ArrayList<>();
        int j = 0;
        while (j < y.length()) {
            int end = y.length();
            while (end > j && !(x.contains(y.substring(j, end)) && 5 + cost[end] == cost[j])) end--;
            if (end > j) {
                pieces.add(new Piece(x.indexOf(y.substring(j, end)), end - j, ""));
                j = end;
            } else {
                addTold(pieces, y.substring(j, j + 1));
                j++;
            }
        }
        return pieces;
    }

    private static void addTold(List<Piece> pieces, String told) {
        int last = pieces.size() - 1;
        if (last >= 0 && pieces.get(last).place < 0) told = pieces.remove(last).told + told;
        pieces.add(new Piece(-1, told.length(), told));
    }

    private static void addCopied(List<Piece> pieces, int place) {
        int last = pieces.size() - 1;
        if (last >= 0 && pieces.get(last).place >= 0 && pieces.get(last).place + pieces.get(last).length == place) {
            Piece before = pieces.remove(last);
            pieces.add(new Piece(before.place, before.length + 1, ""));
        } else {
            pieces.add(new Piece(place, 1, ""));
        }
    }

    static List<Piece> whole(String x) { return x.isEmpty() ? List.of() : List.of(new Piece(0, x.length(), "")); }

    static String made(List<Piece> delta, String x) {
        StringBuilder y = new StringBuilder();
        for (Piece piece : delta) {
            y.append(piece.place < 0 ? piece.told : x.substring(piece.place, piece.place + piece.length));
        }
        return y.toString();
    }

    static List<Piece> join(List<Piece> toY, List<Piece> toZ) {
        List<Piece> all = new ArrayList<>();
        for (Piece piece : toZ) {
            for (int k = 0; k < piece.length; k++) {
                if (piece.place < 0) addTold(all, piece.told.substring(k, k + 1));
                else addByteOf(toY, piece.place + k, all);
            }
        }
        return all;
    }

    private static void addByteOf(List<Piece> delta, int k, List<Piece> all) {
        int start = 0;
        for (Piece piece : delta) {
            if (k < start + piece.length) {
                if (piece.place < 0) addTold(all, piece.told.substring(k - start, k - start + 1));
                else addCopied(all, piece.place + k - start);
                return;
            }
            start += piece.length;
        }
        throw new IllegalStateException("no such byte");
    }

    // ---- patches

    static int like(String x, String y) {
        if (x.length() + y.length() == 0) return 0;
        Map<Integer, Integer> known = new HashMap<>();
        return 2000 * common(x, y, 0, 0, known) / (x.length() + y.length());
    }

    private static int common(String x, String y, int i, int j, Map<Integer, Integer> known) {
        if (i == x.length() || j == y.length()) return 0;
        Integer before = known.get(i * 64 + j);
        if (before != null) return before;
        int most = x.charAt(i) == y.charAt(j) ? 1 + common(x, y, i + 1, j + 1, known)
            : Math.max(common(x, y, i + 1, j, known), common(x, y, i, j + 1, known));
        known.put(i * 64 + j, most);
        return most;
    }

    private static Step step(int sort, String path, String from, String x, String y) {
        boolean move = sort == 3;
        String source = x == null ? "" : x;
        String target = y == null ? "" : y;
        return new Step(sort, path, from, x == null ? NONE : x.length(), x == null ? NONE : sum(x),
            y == null ? NONE : y.length(), y == null ? NONE : sum(y),
            move ? whole(source) : least(source, target), move ? whole(target) : least(target, source));
    }

    private static List<Step> inOrder(List<Step> steps) {
        List<Step> sorted = new ArrayList<>(steps);
        sorted.sort((s, u) -> s.path.equals(u.path) ? (s.sort == 1 ? 0 : 1) - (u.sort == 1 ? 0 : 1)
            : s.path.compareTo(u.path));
        return sorted;
    }

    int patch(int a, int b) {
        if (noTree(a) || noTree(b)) return BAD;
        if (patches.size() == 8) return FULL;
        SortedMap<String, String> old = trees.get(a);
        SortedMap<String, String> now = trees.get(b);
        List<Step> steps = new ArrayList<>();
        SortedMap<String, String> gone = new TreeMap<>(old);
        gone.keySet().removeAll(now.keySet());
        SortedMap<String, String> come = new TreeMap<>(now);
        come.keySet().removeAll(old.keySet());
        for (String path : old.keySet()) {
            if (now.containsKey(path) && !now.get(path).equals(old.get(path))) {
                steps.add(step(2, path, path, old.get(path), now.get(path)));
            }
        }
        for (String path : new ArrayList<>(come.keySet())) {
            for (String from : new ArrayList<>(gone.keySet())) {
                if (come.containsKey(path) && !come.get(path).isEmpty() && come.get(path).equals(gone.get(from))) {
                    steps.add(step(3, path, from, gone.remove(from), come.remove(path)));
                }
            }
        }
        while (addMostLike(gone, come, steps)) { }
        gone.forEach((path, content) -> steps.add(step(1, path, path, content, null)));
        come.forEach((path, content) -> steps.add(step(0, path, path, null, content)));
        return addPatch(inOrder(steps));
    }

    private static boolean addMostLike(Map<String, String> gone, Map<String, String> come, List<Step> steps) {
        int most = 599;
        String path = null;
        String from = null;
        for (String one : come.keySet()) {
            for (String two : gone.keySet()) {
                int like = like(gone.get(two), come.get(one));
                if (like > most) {
                    most = like;
                    path = one;
                    from = two;
                }
            }
        }
        if (path == null) return false;
        steps.add(step(4, path, from, gone.remove(from), come.remove(path)));
        return true;
    }

    int step(int p, int i, int what) {
        if (noPatch(p)) return BAD;
        if (what == 9) return patches.get(p).size();
        if (i < 0 || i >= patches.get(p).size()) return BAD;
        Step s = patches.get(p).get(i);
        return switch (what) {
            case 0 -> s.sort;
            case 1 -> s.sourceLength;
            case 2 -> s.sourceSum;
            case 3 -> s.targetLength;
            case 4 -> s.targetSum;
            case 5 -> s.path.length();
            case 6 -> s.from.length();
            case 7 -> s.delta.size();
            case 8 -> s.back.size();
            default -> BAD;
        };
    }

    int stepByte(int p, int i, int side, int k) {
        if (noPatch(p) || i < 0 || i >= patches.get(p).size() || side < 0 || side > 1) return BAD;
        Step s = patches.get(p).get(i);
        return charOf(side == 0 ? s.path : s.from, k);
    }

    int piece(int p, int i, int side, int j, int k) {
        if (noPatch(p) || i < 0 || i >= patches.get(p).size() || side < 0 || side > 1) return BAD;
        List<Piece> delta = side == 0 ? patches.get(p).get(i).delta : patches.get(p).get(i).back;
        if (j < 0 || j >= delta.size()) return BAD;
        Piece piece = delta.get(j);
        if (k == -1) return piece.place < 0 ? NONE : piece.place;
        return k == -2 ? piece.length : charOf(piece.told, k);
    }

    int apply(int p, int t, boolean strictly) {
        if (noPatch(p) || noTree(t)) return BAD;
        if (trees.size() == 12) return FULL;
        conflicts.clear();
        List<Step> patch = patches.get(p);
        SortedMap<String, String> tree = trees.get(t);
        List<Step> going = new ArrayList<>(patch);
        for (int i = 0; i < going.size(); i++) {
            int rule = rule(going.get(i), going, tree);
            if (rule != 0) {
                conflicts.add(new int[] {patch.indexOf(going.get(i)), rule});
                if (strictly) return -10 - rule;
                going.remove(i);
                i = -1;
            }
        }
        SortedMap<String, String> result = new TreeMap<>(tree);
        for (Step s : going) if (s.hasSource()) result.remove(s.from);
        for (Step s : going) if (s.hasTarget()) result.put(s.path, made(s.delta, tree.getOrDefault(s.from, "")));
        if (result.size() > 10) return -15;
        for (String one : result.keySet()) {
            for (String two : result.keySet()) if (two.startsWith(one + "/")) return -15;
        }
        return addTree(result);
    }

    private static int rule(Step s, List<Step> going, Map<String, String> tree) {
        if (s.hasSource()) {
            String content = tree.get(s.from);
            if (content == null) return 1;
            if (content.length() != s.sourceLength || sum(content) != s.sourceSum) return 2;
        }
        if (!s.hasTarget()) return 0;
        if (sum(made(s.delta, s.hasSource() ? tree.get(s.from) : "")) != s.targetSum) return 4;
        boolean leaves = going.stream().anyMatch(g -> g.hasSource() && g.from.equals(s.path));
        return tree.containsKey(s.path) && !leaves ? 3 : 0;
    }

    int conflict(int i, int what) {
        if (i == -1 && what == 0) return conflicts.size();
        if (i < 0 || i >= conflicts.size() || what < 0 || what > 1) return BAD;
        return conflicts.get(i)[what];
    }

    int inverse(int p) {
        if (noPatch(p)) return BAD;
        if (patches.size() == 8) return FULL;
        List<Step> steps = new ArrayList<>();
        for (Step s : patches.get(p)) {
            int sort = s.sort < 2 ? 1 - s.sort : s.sort;
            steps.add(new Step(sort, s.from, s.path, s.targetLength, s.targetSum, s.sourceLength, s.sourceSum,
                s.back, s.delta));
        }
        return addPatch(inOrder(steps));
    }

    int chain(int p, int q) {
        if (noPatch(p) || noPatch(q)) return BAD;
        if (patches.size() == 8) return FULL;
        Map<String, Step> sources = new HashMap<>();
        Map<String, Step> targets = new HashMap<>();
        Map<String, Step> nextSources = new HashMap<>();
        for (Step s : patches.get(p)) {
            if (s.hasSource()) sources.put(s.from, s);
            if (s.hasTarget()) targets.put(s.path, s);
        }
        for (Step s : patches.get(q)) if (s.hasSource()) nextSources.put(s.from, s);
        for (Step s : patches.get(q)) {
            Step before = s.hasSource() ? targets.get(s.from) : null;
            if (s.hasSource() && before == null && sources.containsKey(s.from)) return -11;
            if (before != null && (before.targetLength != s.sourceLength || before.targetSum != s.sourceSum)) return -12;
            if (s.hasTarget() && targets.containsKey(s.path) && !nextSources.containsKey(s.path)) return -13;
        }
        List<Step> left = new ArrayList<>(patches.get(p));
        List<Step> steps = new ArrayList<>();
        for (Step s : patches.get(q)) {
            Step before = s.hasSource() ? targets.get(s.from) : null;
            Step dropped = s.sort == 0 ? sources.get(s.path) : null;
            if (before != null) {
                left.remove(before);
                Step one = joined(before, s);
                if (one != null) steps.add(one);
            } else if (dropped != null && dropped.sort == 1) {
                left.remove(dropped);
                steps.add(new Step(2, s.path, s.path, dropped.sourceLength, dropped.sourceSum, s.targetLength,
                    s.targetSum, s.delta, dropped.back));
            } else {
                steps.add(s);
            }
        }
        steps.addAll(left);
        return steps.size() > 24 ? FULL : addPatch(inOrder(steps));
    }

    private static Step joined(Step first, Step second) {
        List<Piece> delta = join(first.delta, second.delta);
        List<Piece> back = join(second.back, first.back);
        boolean added = first.sort == 0;
        boolean dropped = second.sort == 1;
        if (added && dropped) return null;
        String from = added ? second.path : first.from;
        String path = dropped ? first.from : second.path;
        List<Piece> all = first.sourceLength > 0 ? List.of(new Piece(0, first.sourceLength, "")) : List.of();
        boolean whole = delta.equals(all);
        if (!added && !dropped && whole && from.equals(path)) return null;
        int sort = added ? 0 : dropped ? 1 : from.equals(path) ? 2 : whole ? 3 : 4;
        return new Step(sort, path, from, first.sourceLength, first.sourceSum, second.targetLength,
            second.targetSum, delta, back);
    }

    // ---- the disk

    int power(int n) {
        if (n < -1 || n > 40) return BAD;
        if (down) return DOWN;
        power = n;
        return 1;
    }

    private boolean fails() {
        if (power == 0) down = true;
        if (down) return true;
        power = Math.max(-1, power - 1);
        writings++;
        return false;
    }

    int install(int t) {
        if (noTree(t)) return BAD;
        if (down) return DOWN;
        int before = writings;
        Map<String, Integer> list = lists.get(counting);
        Map<String, Integer> next = new TreeMap<>();
        for (Map.Entry<String, String> file : trees.get(t).entrySet()) {
            Integer slot = list.get(file.getKey());
            if (slot == null || !file.getValue().equals(slots[slot])) {
                slot = 0;
                while (list.containsValue(slot) || next.containsValue(slot)) slot++;
                if (fails()) return DOWN;
                slots[slot] = file.getValue();
            }
            next.put(file.getKey(), slot);
        }
        if (fails()) return DOWN;
        lists.set(1 - counting, next);
        if (fails()) return DOWN;
        counting = 1 - counting;
        return writings - before;
    }

    int open() {
        if (trees.size() == 12) return FULL;
        SortedMap<String, String> tree = new TreeMap<>();
        lists.get(counting).forEach((path, slot) -> tree.put(path, slots[slot]));
        power = -1;
        down = false;
        return addTree(tree);
    }

    int slot(int i, int what) {
        if (i < 0 || i > 29 || what < 0 || what > 2) return BAD;
        if (what == 2) return lists.get(counting).containsValue(i) ? 1 : 0;
        return slots[i] == null ? NONE : what == 0 ? slots[i].length() : sum(slots[i]);
    }

    int count(int what) {
        List<Integer> all = List.of(trees.size(), patches.size(), tape.length(), hand.length(),
            lists.get(counting).size(), writings, down ? 1 : 0, counting);
        return what < 0 || what >= all.size() ? BAD : all.get(what);
    }
}
