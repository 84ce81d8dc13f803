import java.util.function.Consumer;

/** A call that is refused (BAD, NONE, FULL, DOWN, a RULE of chain) leaves all as it was. */
public final class EdgesOfRefusalsTest {
    private static final int BAD = PatchChains.BAD, NONE = PatchChains.NONE, FULL = PatchChains.FULL;
    private static final Check check = new Check();

    public static void main(String[] args) {
        bad();
        full();
        fullOfFiles();
        inTheWay();
        fullOfTape();
        down();
        check.finish();
    }

    /** Three trees, two patches, a conflict, a disk with a tree, a path at hand, five bytes on the tape. */
    private static void some(PatchChains x) {
        int a = Kit.tree(x, "a", "1", "b/c", "22");
        int b = Kit.tree(x, "a", "2", "b/d", "22");
        int p = x.patch(a, b);
        x.inverse(p);
        x.apply(p, b, false);
        x.install(a);
        Kit.path(x, "q/r");
        Kit.feed(x, "tapes");
    }

    private static void refused(Consumer<PatchChains> before, int answer, Call... calls) {
        for (Call call : calls) {
            check.edge(call.toString(), x -> {
                before.accept(x);
                String state = Kit.state(x);
                check.due("answer", call.on(x), answer);
                check.due("all as it was", Kit.state(x), state);
            });
        }
    }

    private static void bad() {
        refused(EdgesOfRefusalsTest::some, BAD, new Call("end", 5), new Call("tree", -2), new Call("tree", 3),
            new Call("put", 3), new Call("put", -1), new Call("drop", 3), new Call("drop", 0), new Call("patch", 3, 0),
            new Call("patch", 0, 3), new Call("apply", 2, 0, 1), new Call("apply", 0, 3, 0), new Call("inverse", 2),
            new Call("chain", 2, 0), new Call("chain", 0, 2), new Call("power", 41), new Call("power", -2),
            new Call("install", 3), new Call("file", 3, 0, 3), new Call("byteOf", 0, 2, 0, 0), new Call("same", 0, 3),
            new Call("step", 2, 0, 9), new Call("stepByte", 0, 0, 2, 0), new Call("piece", 0, 0, 0, 9, -1),
            new Call("conflict", 9, 0), new Call("slot", 30, 0), new Call("count", 8));
        refused(EdgesOfRefusalsTest::some, -12, new Call("chain", 0, 0));
    }

    private static void full() {
        refused(x -> {
            some(x);
            while (x.count(0) < 12) {
                x.tree(-1);
            }
            while (x.count(1) < 8) {
                x.patch(2, 2);
            }
        }, FULL, new Call("tree", -1), new Call("tree", 0), new Call("patch", 0, 1), new Call("apply", 0, 0, 1),
            new Call("apply", 0, 1, 0), new Call("inverse", 0), new Call("chain", 0, 1), new Call("chain", 0, 0),
            new Call("open"));
    }

    private static void fullOfFiles() {
        refused(x -> {
            int t = x.tree(-1);
            for (int i = 0; i < 10; i++) {
                Kit.put(x, t, "m/" + (char) ('a' + i), "" + i);
            }
            Kit.path(x, "z");
            Kit.feed(x, "tapes");
        }, FULL, new Call("put", 0));
    }

    private static void inTheWay() {
        refused(x -> {
            Kit.tree(x, "a/b", "1");
            Kit.path(x, "a/b/c");
            Kit.feed(x, "tapes");
        }, NONE, new Call("put", 0));
        refused(x -> {
            Kit.tree(x, "a/b", "1");
            Kit.path(x, "a");
        }, NONE, new Call("put", 0));
        refused(x -> {
            Kit.tree(x, "a/b", "1");
            Kit.feed(x, Kit.letters('0', 49));
        }, BAD, new Call("put", 0));
    }

    private static void fullOfTape() {
        refused(x -> {
            some(x);
            x.feed(1, 2, 3, 4, 5);
            x.feed(1, 2, 3, 4, 5);
            x.feed(1, 2, 3, 4, 5);
        }, FULL, new Call("feed", 1, 2, 3, 4, 5));
        refused(x -> {
            some(x);
            x.feed(1, 2, 3, 4, 5);
        }, BAD, new Call("end", 21), new Call("end", -1));
    }

    private static void down() {
        refused(x -> {
            some(x);
            x.power(1);
            x.install(1);
        }, PatchChains.DOWN, new Call("install", 1), new Call("install", 0), new Call("power", 0),
            new Call("power", -1), new Call("power", 40));
    }
}
