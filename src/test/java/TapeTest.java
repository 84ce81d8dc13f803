/** Promises 1 to 4: a new object, feed, end, path. */
public final class TapeTest {
    private static final Check check = new Check();

    public static void main(String[] args) {
        newObject();
        feed();
        end();
        path();
        wrongPaths();
        check.finish();
    }

    private static void newObject() {
        PatchChains x = new PatchChains();
        for (int what = 0; what <= 7; what++) {
            check.due("1: count(" + what + ")", x.count(what), 0);
        }
        check.due("1: no tree", x.file(0, 0, 3), PatchChains.BAD);
        check.due("1: no patch", x.step(0, 0, 9), PatchChains.BAD);
        check.due("1: no conflict", x.conflict(-1, 0), 0);
        check.due("1: no conflict 0", x.conflict(0, 0), PatchChains.BAD);
        for (int i = 0; i < 30; i++) {
            check.due("1: slot " + i + " not written", x.slot(i, 0), PatchChains.NONE);
            check.due("1: slot " + i + " has no sum", x.slot(i, 1), PatchChains.NONE);
            check.due("1: slot " + i + " not listed", x.slot(i, 2), 0);
        }
        int t = x.tree(-1);
        check.due("1: no path at hand to drop", x.drop(t), PatchChains.BAD);
        check.due("1: no path at hand to put", x.put(t), PatchChains.BAD);
        for (int i = 0; i < 30; i++) {
            check.due("1: power for ever", x.install(t), 2);
        }
        check.due("1: writings", x.count(5), 60);
    }

    private static void feed() {
        PatchChains x = new PatchChains();
        int t = x.tree(-1);
        Kit.path(x, "a");
        check.due("2: first", x.feed(0x00010203, 0x7F80FEFF, -1, Integer.MIN_VALUE, 0x61626364), 20);
        check.due("2: put", x.put(t), 1);
        int[] bytes = {0, 1, 2, 3, 127, 128, 254, 255, 255, 255, 255, 255, 128, 0, 0, 0, 97, 98, 99, 100};
        for (int k = 0; k < 20; k++) {
            check.due("2: byte " + k, x.byteOf(t, 0, 0, k), bytes[k]);
        }
        for (int n = 20; n <= 80; n += 20) {
            check.due("2: up to " + n, x.feed(n, 0, 0, 0, 0), n);
        }
        check.due("2: above 80", x.feed(0, 0, 0, 0, 0), PatchChains.FULL);
        check.due("2: stays 80", x.count(2), 80);
        x.end(1);
        check.due("2: 61 and 20 are above 80", x.feed(0, 0, 0, 0, 0), PatchChains.FULL);
        x.end(19);
        check.due("2: 60 and 20 are not", x.feed(0, 0, 0, 0, 0), 80);
    }

    private static void end() {
        PatchChains x = new PatchChains();
        check.due("3: nothing there", x.end(0), PatchChains.BAD);
        x.feed(0x61626364, 0x65666768, 0x696A6B6C, 0x6D6E6F70, 0x71727374);
        check.due("3: -1", x.end(-1), PatchChains.BAD);
        check.due("3: 21", x.end(21), PatchChains.BAD);
        check.due("3: least int", x.end(Integer.MIN_VALUE), PatchChains.BAD);
        check.due("3: all stay", x.end(20), 20);
        check.due("3: 19 stay", x.end(19), 19);
        check.due("3: fewer than twenty", x.end(19), PatchChains.BAD);
        check.due("3: the tape stays with BAD", x.count(2), 19);
        x.feed(0x30313233, 0, 0, 0, 0);
        check.due("3: 0 of the last twenty", x.end(0), 19);
        x.feed(0x30313233, 0, 0, 0, 0);
        check.due("3: of the last twenty, not of all", x.end(2), 21);
        check.due("3: the last twenty of any kind", x.end(3), 4);
        int t = x.tree(-1);
        x.feed(0x61000000, 0, 0, 0, 0);
        x.end(1);
        check.due("3: five there", x.count(2), 5);
        x.path();
        Kit.path(x, "p");
        Kit.feed(x, "abcdefghijklmnopqrstuvwxyz");
        x.put(t);
        check.due("3: the first ones stay", Kit.files(x, t), "p=abcdefghijklmnopqrstuvwxyz");
    }

    private static void path() {
        PatchChains x = new PatchChains();
        String[] paths = {"a", "z", "abcde", "a/b", "abcde/fghij", "a/b/c", "vwxyz/vwxyz/vwxyz"};
        int[] names = {1, 1, 1, 2, 2, 3, 3};
        for (int i = 0; i < paths.length; i++) {
            check.due("4: " + paths[i], Kit.path(x, paths[i]), names[i]);
            check.due("4: bytes of " + paths[i], x.count(3), paths[i].length());
            check.due("4: the tape is empty", x.count(2), 0);
        }
        int t = x.tree(-1);
        x.put(t);
        check.due("4: at hand", Kit.files(x, t), "vwxyz/vwxyz/vwxyz=");
    }

    private static void wrongPaths() {
        PatchChains x = new PatchChains();
        Kit.path(x, "good/one");
        String[] wrong = {"", "/", "a/", "/a", "a//b", "abcdef", "a/abcdef", "a/b/c/d", "a/b/c/", "A", "a.b", "a b",
            "`", "{", "a\u0000", "\u00e1", "abcde/abcde/abcde/", "abcde/abcde/abcdef",
            "aaaaa/aaaaa/aaaaa/aaaaa/aaaaa/aaaaa/aaaaa/aaaaa/aaaaa/aaaaa/aaaaa/aaaaa/aaaaa"};
        for (String path : wrong) {
            check.due("4: no path '" + path + "'", Kit.path(x, path), PatchChains.BAD);
            check.due("4: the tape is empty behind '" + path + "'", x.count(2), 0);
            check.due("4: the one at hand stays", x.count(3), 8);
        }
        int t = x.tree(-1);
        x.put(t);
        check.due("4: still at hand", Kit.files(x, t), "good/one=");
    }
}
