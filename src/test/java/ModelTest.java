import java.util.ArrayList;
import java.util.List;
import java.util.Random;

/**
 * Runs of calls by a random source with a fixed seed, on the class and on the model: each answer the same.
 * No object is used for more than 512 calls: when it has had them, a new one is brought to where it was.
 */
public final class ModelTest {
    private static final int RUNS = 6000;
    private static final int MOST_CALLS = 512;
    private static final int MOST_CHANGES = 300;
    private static final String[] PATHS = {"a", "a/b", "a/b/c", "b", "b/c", "c", "d", "e/f", "e/g", "f", "g", "h",
        "i", "j", "ab", "zz/zz/zz", "k", "l"};
    private static final int[] WILD = {-3, -2, -1, 0, 1, 2, 7, 8, 11, 12, 24, 30, 48, 1000, Integer.MIN_VALUE,
        Integer.MAX_VALUE};

    private final Check check = new Check();
    private final List<Call> changes = new ArrayList<>();
    private final int[] seen = new int[40];
    private Random random;
    private PatchChains x;
    private Model m;
    private String[] contents;
    private int calls = 0;
    private int thin = 1;
    private int wrong = 0;

    public static void main(String[] args) {
        new ModelTest().all();
    }

    private void all() {
        for (int run = 0; run < RUNS && wrong == 0; run++) {
            random = new Random(1000 + run);
            x = new PatchChains();
            m = new Model();
            calls = 0;
            changes.clear();
            contents = someContents(run % 4);
            while (changes.size() < MOST_CHANGES && wrong == 0) {
                act(run % 4);
            }
            thin = run % 100 == 0 ? 1 : 20;
            compareAll();
        }
        for (int rule = 1; rule <= 5; rule++) {
            check.due("rule " + rule + " was seen in apply", seen[rule] > 0, true);
        }
        for (int rule = 1; rule <= 3; rule++) {
            check.due("rule " + rule + " was seen in chain", seen[10 + rule] > 0, true);
        }
        check.due("chain above 24 steps was seen", seen[20] > 0, true);
        check.due("joined chains were seen", seen[21] > 100, true);
        check.due("conflicts were seen", seen[22] > 100, true);
        check.due("power failed", seen[23] > 100, true);
        check.finish();
    }

    /** Some that are like one another, some with the same sum, some of no bytes. */
    private String[] someContents(int style) {
        String[] twins = Kit.twins();
        if (style == 3) {
            String tail = letters(9, 4);
            return new String[] {twins[0] + tail, twins[1] + tail, "Q" + twins[0] + tail, "Q" + twins[1] + tail,
                tail + twins[0], ""};
        }
        String base = letters(random.nextInt(30) + 10, random.nextInt(8) + 2);
        List<String> some = new ArrayList<>(List.of("", "x", "ab", twins[0], twins[1],
            twins[0] + base.substring(0, 8), twins[1] + base.substring(0, 8), base));
        while (some.size() < 22) {
            String other = some.get(random.nextInt(some.size()));
            some.add(changed(random.nextInt(3) == 0 ? letters(random.nextInt(49), 3) : other));
        }
        return some.toArray(new String[0]);
    }

    private String letters(int n, int kinds) {
        StringBuilder text = new StringBuilder();
        for (int k = 0; k < n; k++) {
            text.append((char) ('a' + random.nextInt(kinds)));
        }
        return text.toString();
    }

    private String changed(String text) {
        int at = random.nextInt(text.length() + 1);
        String head = text.substring(0, at);
        String tail = text.substring(at);
        String result = switch (random.nextInt(5)) {
            case 0 -> head + (char) random.nextInt(256) + tail;
            case 1 -> tail + head;
            case 2 -> head + tail.substring(Math.min(tail.length(), random.nextInt(6)));
            case 3 -> head + letters(random.nextInt(6), 4) + tail;
            default -> text + head;
        };
        return result.substring(0, Math.min(48, result.length()));
    }

    /** A call that may change something: it is made again on each new object. */
    private int act(String name, int... a) {
        Call call = new Call(name, a);
        renew();
        changes.add(call);
        return compare(call);
    }

    /** A call that changes nothing. */
    private void ask(String name, int... a) {
        renew();
        compare(new Call(name, a));
    }

    /** Of many such calls only some are made. */
    private void askSome(String name, int... a) {
        if (thin == 1 || random.nextInt(thin) == 0) {
            ask(name, a);
        }
    }

    private int compare(Call call) {
        int want = call.on(m);
        int got = call.on(x);
        calls++;
        if (got != want) {
            wrong++;
            System.out.println(changes);
        }
        check.due(call.toString(), got, want);
        return want;
    }

    private void renew() {
        if (calls < MOST_CALLS) {
            return;
        }
        x = new PatchChains();
        for (Call change : changes) {
            change.on(x);
        }
        calls = changes.size();
    }

    private int anyTree() {
        int n = m.count(0);
        return random.nextInt(40) == 0 || n == 0 ? wild() : random.nextInt(n);
    }

    private int anyPatch() {
        int n = m.count(1);
        return random.nextInt(40) == 0 || n == 0 ? wild() : random.nextInt(n);
    }

    private int wild() {
        return WILD[random.nextInt(WILD.length)];
    }

    private void feedText(String text) {
        for (int start = 0; start < text.length(); start += 20) {
            int n = Math.min(20, text.length() - start);
            int[] numbers = new int[5];
            for (int k = 0; k < 20; k++) {
                numbers[k / 4] = numbers[k / 4] << 8 | (k < n ? text.charAt(start + k) : 0);
            }
            act("feed", numbers);
            act("end", n);
        }
    }

    private void putSome(int t, int kinds) {
        if (random.nextInt(30) > 0 && m.count(2) > 0) {
            act("path");
        }
        feedText(PATHS[random.nextInt(kinds)]);
        act("path");
        if (random.nextInt(6) == 0) {
            act("drop", t);
        } else {
            feedText(contents[random.nextInt(contents.length)]);
            act("put", t);
        }
    }

    /** Ten files below one name or another, so that chains come to have many steps. */
    private void fillTree() {
        int t = act("tree", -1);
        String top = "" + (char) ('p' + random.nextInt(4));
        if (m.count(2) > 0) {
            act("path");
        }
        for (int i = 0; i < 10 && t >= 0; i++) {
            feedText(top + "/" + (char) ('a' + i));
            act("path");
            feedText(random.nextInt(3) == 0 ? contents[random.nextInt(contents.length)] : "");
            act("put", t);
        }
    }

    private void act(int style) {
        int dice = random.nextInt(100);
        if (dice < 8) {
            act("tree", random.nextInt(3) == 0 ? -1 : anyTree());
        } else if (dice < 11 && style == 2) {
            fillTree();
        } else if (dice < 40) {
            putSome(anyTree(), style == 3 ? 4 : style == 0 ? 6 : style == 1 ? PATHS.length : 11);
        } else if (dice < 52) {
            act("patch", anyTree(), anyTree());
        } else if (dice < 64) {
            applySome();
        } else if (dice < 69) {
            act("inverse", anyPatch());
        } else if (dice < 82) {
            chainSome();
        } else if (dice < 94) {
            diskSome(dice);
        } else if (dice < 96 || m.count(0) == 12 || m.count(1) == 8) {
            clearSome();
        } else {
            wildSome();
        }
    }

    private void applySome() {
        int want = act("apply", anyPatch(), anyTree(), random.nextInt(3) == 0 ? 1 : 0);
        if (want <= -11) {
            seen[-10 - want]++;
        }
        int conflicts = m.conflict(-1, 0);
        seen[22] += conflicts;
        for (int i = -2; i <= conflicts; i++) {
            for (int what = -1; what <= 2; what++) {
                ask("conflict", i, what);
            }
            if (m.conflict(i, 1) > 0) {
                seen[m.conflict(i, 1)]++;
            }
        }
    }

    private void chainSome() {
        boolean room = m.count(1) < 8;
        int want = act("chain", anyPatch(), anyPatch());
        if (want <= -11) {
            seen[-want]++;
        }
        if (want == Model.FULL && room) {
            seen[20]++;
        }
        if (want >= 0) {
            thin = 20;
            comparePatch(want);
            seen[21]++;
        }
    }

    private void diskSome(int dice) {
        if (dice < 86) {
            act("power", random.nextInt(10) == 0 ? wild() : random.nextInt(14) - 1);
        } else if (dice < 91) {
            if (act("install", anyTree()) == Model.DOWN) {
                seen[23]++;
            }
        } else {
            act("open");
        }
    }

    private void clearSome() {
        if (random.nextInt(2) == 0) {
            thin = 60;
            compareAll();
            act("clear");
        }
    }

    private void wildSome() {
        int a = wild();
        int b = wild();
        int c = wild();
        int d = wild();
        int e = wild();
        act("feed", a, b, c, d, e);
        act("end", a);
        act("put", a);
        act("drop", b);
        ask("file", a, b, c);
        ask("byteOf", a, b, c, d);
        ask("same", a, b);
        ask("step", a, b, c);
        ask("stepByte", a, b, c, d);
        ask("piece", a, b, c, d, e);
        ask("conflict", a, b);
        ask("slot", a, b);
        ask("count", a);
    }

    private void compareAll() {
        for (int what = -1; what <= 8; what++) {
            ask("count", what);
        }
        for (int i = -1; i <= 30; i++) {
            for (int what = -1; what <= 3; what++) {
                askSome("slot", i, what);
            }
        }
        for (int t = 0; t <= m.count(0); t++) {
            compareTree(t);
        }
        for (int p = 0; p <= m.count(1); p++) {
            comparePatch(p);
        }
    }

    private void compareTree(int t) {
        for (int i = -1; i <= m.file(t, 0, 3); i++) {
            for (int what = -1; what <= 4; what++) {
                askSome("file", t, i, what);
            }
            for (int side = -1; side <= 2; side++) {
                int bytes = Math.max(0, m.file(t, i, 1 - (side & 1)));
                for (int k = -1; k <= bytes; k++) {
                    askSome("byteOf", t, i, side, k);
                }
            }
        }
        for (int u = 0; u <= m.count(0); u++) {
            askSome("same", t, u);
        }
    }

    private void comparePatch(int p) {
        for (int i = -1; i <= m.step(p, 0, 9); i++) {
            for (int what = -1; what <= 10; what++) {
                askSome("step", p, i, what);
            }
            for (int side = -1; side <= 2; side++) {
                for (int k = -1; k <= 17; k++) {
                    askSome("stepByte", p, i, side, k);
                }
                int pieces = Math.max(0, m.step(p, i, 7 + (side & 1)));
                for (int j = -1; j <= pieces; j++) {
                    for (int k = -3; k <= Math.max(0, m.piece(p, i, side, j, -2)); k++) {
                        askSome("piece", p, i, side, j, k);
                    }
                }
            }
        }
    }
}
