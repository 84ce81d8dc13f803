import java.util.ArrayList;
import java.util.List;
import java.util.Random;

/** Runs of calls by a random source with a fixed seed, on the class and on the model: each answer the same. */
public final class ModelTest {
    private static final int RUNS = 1500;
    private static final int CALLS = 300;
    private static final String[] PATHS = {"a", "a/b", "a/b/c", "b", "b/c", "c", "d", "e/f", "e/g", "f", "g", "h",
        "i", "j", "ab", "zz/zz/zz", "k", "l"};
    private static final int[] WILD = {-3, -2, -1, 0, 1, 2, 7, 8, 11, 12, 24, 30, 48, 1000, Integer.MIN_VALUE,
        Integer.MAX_VALUE};

    private final Check check = new Check();
    private final List<String> log = new ArrayList<>();
    private Random random;
    private PatchChains x;
    private Model m;
    private String[] contents;
    private int wrong = 0;
    private final int[] seen = new int[40];

    public static void main(String[] args) {
        new ModelTest().all();
    }

    private void all() {
        for (int run = 0; run < RUNS && wrong == 0; run++) {
            random = new Random(1000 + run);
            x = new PatchChains();
            m = new Model();
            log.clear();
            contents = someContents(run % 4);
            for (int call = 0; call < CALLS && wrong == 0; call++) {
                act(run % 4);
                if (call % 50 == 49) {
                    compareAll();
                }
            }
        }
        for (int rule = 1; rule <= 5; rule++) {
            check.due("rule " + rule + " was seen in apply", seen[rule] > 0, true);
        }
        for (int rule = 1; rule <= 3; rule++) {
            check.due("rule " + rule + " was seen in chain", seen[10 + rule] > 0, true);
        }
        check.due("chain above 24 steps was seen", seen[20] > 0, true);
        check.due("joined chains were seen", seen[21] > 100, true);
        check.due("conflicts were seen", seen[22] > 100, true);
        check.due("power failed", seen[23] > 100, true);
        check.finish();
    }

    /** Some that are like one another, some with the same sum, some of no bytes. */
    private String[] someContents(int style) {
        String[] twins = Kit.twins();
        if (style == 3) {
            String tail = letters(9, 4);
            return new String[] {twins[0] + tail, twins[1] + tail, "Q" + twins[0] + tail, "Q" + twins[1] + tail,
                tail + twins[0], ""};
        }
        String base = letters(random.nextInt(30) + 10, random.nextInt(8) + 2);
        List<String> some = new ArrayList<>(List.of("", "x", "ab", twins[0], twins[1],
            twins[0] + base.substring(0, 8), twins[1] + base.substring(0, 8), base));
        while (some.size() < 22) {
            String other = some.get(random.nextInt(some.size()));
            some.add(changed(random.nextInt(3) == 0 ? letters(random.nextInt(49), 3) : other));
        }
        return some.toArray(new String[0]);
    }

    private String letters(int n, int kinds) {
        StringBuilder text = new StringBuilder();
        for (int k = 0; k < n; k++) {
            text.append((char) ('a' + random.nextInt(kinds)));
        }
        return text.toString();
    }

    private String changed(String text) {
        int at = random.nextInt(text.length() + 1);
        String head = text.substring(0, at);
        String tail = text.substring(at);
        String result;
        switch (random.nextInt(5)) {
            case 0:
                result = head + (char) random.nextInt(256) + tail;
                break;
            case 1:
                result = tail + head;
                break;
            case 2:
                result = head + tail.substring(Math.min(tail.length(), random.nextInt(6)));
                break;
            case 3:
                result = head + letters(random.nextInt(6), 4) + tail;
                break;
            default:
                result = text + head;
        }
        return result.substring(0, Math.min(48, result.length()));
    }

    private void due(String call, int got, int want) {
        log.add(call + " = " + want);
        if (got != want) {
            wrong++;
            System.out.println(String.join("\n", log));
        }
        check.due(call, got, want);
    }

    private int anyTree() {
        int n = m.count(0);
        return random.nextInt(40) == 0 || n == 0 ? wild() : random.nextInt(n);
    }

    private int anyPatch() {
        int n = m.count(1);
        return random.nextInt(40) == 0 || n == 0 ? wild() : random.nextInt(n);
    }

    private int wild() {
        return WILD[random.nextInt(WILD.length)];
    }

    private void feedText(String text) {
        for (int start = 0; start < text.length(); start += 20) {
            int n = Math.min(20, text.length() - start);
            int[] v = new int[5];
            for (int k = 0; k < 20; k++) {
                v[k / 4] = v[k / 4] << 8 | (k < n ? text.charAt(start + k) : 0);
            }
            due("feed", x.feed(v[0], v[1], v[2], v[3], v[4]), m.feed(v[0], v[1], v[2], v[3], v[4]));
            due("end(" + n + ")", x.end(n), m.end(n));
        }
    }

    private void putSome(int t, int kinds) {
        if (random.nextInt(30) > 0) {
            due("path() to clear the tape", x.path(), m.path());
        }
        feedText(PATHS[random.nextInt(kinds)]);
        due("path()", x.path(), m.path());
        if (random.nextInt(6) == 0) {
            due("drop(" + t + ")", x.drop(t), m.drop(t));
        } else {
            feedText(contents[random.nextInt(contents.length)]);
            due("put(" + t + ")", x.put(t), m.put(t));
        }
    }

    /** Ten files below one name or another, so that chains come to have many steps. */
    private void fillTree() {
        int t = m.tree(-1);
        due("tree(-1)", x.tree(-1), t);
        String top = "" + (char) ('p' + random.nextInt(4));
        for (int i = 0; i < 10 && t >= 0; i++) {
            due("path() to clear the tape", x.path(), m.path());
            feedText(top + "/" + (char) ('a' + i));
            due("path()", x.path(), m.path());
            feedText(random.nextInt(3) == 0 ? contents[random.nextInt(contents.length)] : "");
            due("put(" + t + ")", x.put(t), m.put(t));
        }
    }

    private void act(int style) {
        int dice = random.nextInt(100);
        if (dice < 8) {
            int t = random.nextInt(3) == 0 ? -1 : anyTree();
            due("tree(" + t + ")", x.tree(t), m.tree(t));
        } else if (dice < 11 && style == 2) {
            fillTree();
        } else if (dice < 40) {
            putSome(anyTree(), style == 3 ? 4 : style == 0 ? 6 : style == 1 ? PATHS.length : 11);
        } else if (dice < 52) {
            int a = anyTree();
            int b = anyTree();
            due("patch(" + a + ", " + b + ")", x.patch(a, b), m.patch(a, b));
        } else if (dice < 64) {
            applySome();
        } else if (dice < 69) {
            int p = anyPatch();
            due("inverse(" + p + ")", x.inverse(p), m.inverse(p));
        } else if (dice < 82) {
            chainSome();
        } else if (dice < 94) {
            diskSome(dice);
        } else if (dice < 96 || m.count(0) == 12 || m.count(1) == 8) {
            clearSome();
        } else {
            wildSome();
        }
    }

    private void applySome() {
        int p = anyPatch();
        int t = anyTree();
        boolean strictly = random.nextInt(3) == 0;
        int want = m.apply(p, t, strictly);
        due("apply(" + p + ", " + t + ", " + strictly + ")", x.apply(p, t, strictly), want);
        if (want <= -11) {
            seen[-10 - want]++;
        }
        int conflicts = m.conflict(-1, 0);
        seen[22] += conflicts;
        for (int i = -2; i <= conflicts; i++) {
            for (int what = -1; what <= 2; what++) {
                due("conflict(" + i + ", " + what + ")", x.conflict(i, what), m.conflict(i, what));
            }
            if (m.conflict(i, 1) > 0) {
                seen[m.conflict(i, 1)]++;
            }
        }
    }

    private void chainSome() {
        int p = anyPatch();
        int q = anyPatch();
        boolean room = m.count(1) < 8;
        int want = m.chain(p, q);
        due("chain(" + p + ", " + q + ")", x.chain(p, q), want);
        if (want <= -11) {
            seen[-want]++;
        }
        if (want == Model.FULL && room) {
            seen[20]++;
        }
        if (want >= 0) {
            comparePatch(want);
            seen[21]++;
        }
    }

    private void diskSome(int dice) {
        if (dice < 86) {
            int n = random.nextInt(10) == 0 ? wild() : random.nextInt(14) - 1;
            due("power(" + n + ")", x.power(n), m.power(n));
        } else if (dice < 91) {
            int t = anyTree();
            int want = m.install(t);
            due("install(" + t + ")", x.install(t), want);
            if (want == Model.DOWN) {
                seen[23]++;
            }
        } else {
            due("open()", x.open(), m.open());
        }
    }

    private void clearSome() {
        if (random.nextInt(2) == 0) {
            due("clear()", x.clear(), m.clear());
        }
    }

    private void wildSome() {
        int a = wild();
        int b = wild();
        int c = wild();
        int d = wild();
        int e = wild();
        due("feed wild", x.feed(a, b, c, d, e), m.feed(a, b, c, d, e));
        due("end " + a, x.end(a), m.end(a));
        due("file wild", x.file(a, b, c), m.file(a, b, c));
        due("byteOf wild", x.byteOf(a, b, c, d), m.byteOf(a, b, c, d));
        due("same wild", x.same(a, b), m.same(a, b));
        due("step wild", x.step(a, b, c), m.step(a, b, c));
        due("stepByte wild", x.stepByte(a, b, c, d), m.stepByte(a, b, c, d));
        due("piece wild", x.piece(a, b, c, d, e), m.piece(a, b, c, d, e));
        due("conflict wild", x.conflict(a, b), m.conflict(a, b));
        due("slot wild", x.slot(a, b), m.slot(a, b));
        due("count wild", x.count(a), m.count(a));
        due("put wild", x.put(a), m.put(a));
        due("drop wild", x.drop(b), m.drop(b));
    }

    private void compareAll() {
        for (int what = -1; what <= 8; what++) {
            due("count(" + what + ")", x.count(what), m.count(what));
        }
        for (int i = -1; i <= 30; i++) {
            for (int what = -1; what <= 3; what++) {
                due("slot(" + i + ", " + what + ")", x.slot(i, what), m.slot(i, what));
            }
        }
        for (int t = 0; t <= m.count(0); t++) {
            compareTree(t);
        }
        for (int p = 0; p <= m.count(1); p++) {
            comparePatch(p);
        }
    }

    private void compareTree(int t) {
        for (int i = -1; i <= m.file(t, 0, 3); i++) {
            for (int what = -1; what <= 4; what++) {
                due("file(" + t + ", " + i + ", " + what + ")", x.file(t, i, what), m.file(t, i, what));
            }
            for (int side = -1; side <= 2; side++) {
                int bytes = Math.max(0, m.file(t, i, 1 - (side & 1)));
                for (int k = -1; k <= bytes; k++) {
                    due("byteOf(" + t + ", " + i + ", " + side + ", " + k + ")", x.byteOf(t, i, side, k),
                        m.byteOf(t, i, side, k));
                }
            }
        }
        for (int u = 0; u <= m.count(0); u++) {
            due("same(" + t + ", " + u + ")", x.same(t, u), m.same(t, u));
        }
    }

    private void comparePatch(int p) {
        for (int i = -1; i <= m.step(p, 0, 9); i++) {
            for (int what = -1; what <= 10; what++) {
                due("step(" + p + ", " + i + ", " + what + ")", x.step(p, i, what), m.step(p, i, what));
            }
            for (int side = -1; side <= 2; side++) {
                for (int k = -1; k <= 17; k++) {
                    due("stepByte(" + p + ", " + i + ", " + side + ", " + k + ")", x.stepByte(p, i, side, k),
                        m.stepByte(p, i, side, k));
                }
                int pieces = Math.max(0, m.step(p, i, 7 + (side & 1)));
                for (int j = -1; j <= pieces; j++) {
                    for (int k = -3; k <= Math.max(0, m.piece(p, i, side, j, -2)); k++) {
                        due("piece(" + p + ", " + i + ", " + side + ", " + j + ", " + k + ")",
                            x.piece(p, i, side, j, k), m.piece(p, i, side, j, k));
                    }
                }
            }
        }
    }
}
