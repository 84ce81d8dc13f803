/** Promises 5 to 11: tree, put, drop, file, byteOf, same, clear. */
public final class TreesTest {
    private static final Check check = new Check();
    private static final int[] WILD = {-2, Integer.MIN_VALUE, Integer.MAX_VALUE, 12, 100};

    public static void main(String[] args) {
        tree();
        putAndItsTape();
        putInTheWay();
        putWhenFull();
        drop();
        file();
        byteOf();
        same();
        clear();
        check.finish();
    }

    private static void tree() {
        PatchChains x = new PatchChains();
        check.due("5: none to copy", x.tree(0), PatchChains.BAD);
        check.due("5: empty", x.tree(-1), 0);
        Kit.put(x, 0, "b", "two");
        Kit.put(x, 0, "a", "one");
        check.due("5: a copy", x.tree(0), 1);
        check.due("5: as the first one", Kit.files(x, 1), "a=one b=two");
        Kit.put(x, 0, "a", "other");
        Kit.drop(x, 0, "b");
        check.due("5: the copy stays", Kit.files(x, 1), "a=one b=two");
        check.due("5: the first one is changed", Kit.files(x, 0), "a=other");
        for (int t : WILD) {
            check.due("5: tree(" + t + ")", x.tree(t), PatchChains.BAD);
        }
        for (int n = 2; n < 12; n++) {
            check.due("5: number " + n, x.tree(-1), n);
        }
        check.due("5: full", x.tree(-1), PatchChains.FULL);
        check.due("5: full for a copy", x.tree(1), PatchChains.FULL);
        check.due("5: BAD ahead of FULL", x.tree(12), PatchChains.BAD);
        check.due("5: still 12", x.count(0), 12);
    }

    private static void putAndItsTape() {
        PatchChains x = new PatchChains();
        int t = x.tree(-1);
        Kit.feed(x, "content");
        check.due("6: no path at hand", x.put(t), PatchChains.BAD);
        check.due("6: the tape stays", x.count(2), 7);
        x.path();
        Kit.path(x, "m");
        Kit.feed(x, "content");
        check.due("6: no tree 1", x.put(1), PatchChains.BAD);
        check.due("6: no tree -1", x.put(-1), PatchChains.BAD);
        check.due("6: the tape stays too", x.count(2), 7);
        check.due("6: put", x.put(t), 1);
        check.due("6: the tape is empty", x.count(2), 0);
        check.due("6: put anew, no bytes", x.put(t), 1);
        check.due("6: the content is the new one", Kit.files(x, t), "m=");
        String most = "123456789012345678901234567890123456789012345678";
        Kit.feed(x, most);
        check.due("6: 48 bytes", x.put(t), 1);
        check.due("6: all 48", Kit.files(x, t), "m=" + most);
        Kit.feed(x, most + "9");
        check.due("6: 49 bytes", x.put(t), PatchChains.BAD);
        check.due("6: the 49 stay", x.count(2), 49);
        check.due("6: the content stays", Kit.files(x, t), "m=" + most);
    }

    private static void putInTheWay() {
        PatchChains x = new PatchChains();
        int t = Kit.tree(x, "a/b", "1");
        check.due("6: a is in the way of a/b", Kit.put(x, t, "a", "2"), PatchChains.NONE);
        check.due("6: the tape stays with NONE", x.count(2), 1);
        x.path();
        check.due("6: a/b/c behind a/b", Kit.put(x, t, "a/b/c", "2"), PatchChains.NONE);
        x.path();
        check.due("6: a/bb is another name", Kit.put(x, t, "a/bb", "3"), 2);
        check.due("6: ab is another name", Kit.put(x, t, "ab", "4"), 3);
        check.due("6: a/c is beside it", Kit.put(x, t, "a/c/b", "5"), 4);
        check.due("6: b is free", Kit.put(x, t, "b", "6"), 5);
        check.due("6: in order", Kit.files(x, t), "a/b=1 a/bb=3 a/c/b=5 ab=4 b=6");
        check.due("6: a/c is up to a /", Kit.put(x, t, "a/c", "7"), PatchChains.NONE);
        x.path();
        check.due("6: nothing is changed", Kit.files(x, t), "a/b=1 a/bb=3 a/c/b=5 ab=4 b=6");
    }

    private static void putWhenFull() {
        PatchChains x = new PatchChains();
        int t = x.tree(-1);
        for (int i = 0; i < 10; i++) {
            check.due("6: file " + i, Kit.put(x, t, "" + (char) ('j' - i), "" + i), i + 1);
        }
        check.due("6: full", Kit.put(x, t, "k", "10"), PatchChains.FULL);
        check.due("6: the tape stays with FULL", x.count(2), 2);
        x.path();
        check.due("6: NONE ahead of FULL", Kit.put(x, t, "a/b", "10"), PatchChains.NONE);
        x.path();
        check.due("6: another content goes", Kit.put(x, t, "e", "new"), 10);
        check.due("6: ten", Kit.files(x, t), "a=9 b=8 c=7 d=6 e=new f=4 g=3 h=2 i=1 j=0");
    }

    private static void drop() {
        PatchChains x = new PatchChains();
        int t = Kit.tree(x, "a", "1", "b", "2", "c/d", "3");
        check.due("7: no tree", x.drop(1), PatchChains.BAD);
        check.due("7: no tree -1", x.drop(-1), PatchChains.BAD);
        check.due("7: no such file", Kit.drop(x, t, "c"), PatchChains.BAD);
        check.due("7: no such file below", Kit.drop(x, t, "a/b"), PatchChains.BAD);
        check.due("7: first", Kit.drop(x, t, "a"), 2);
        check.due("7: left", Kit.files(x, t), "b=2 c/d=3");
        check.due("7: the path stays at hand", x.drop(t), PatchChains.BAD);
        check.due("7: count(3)", x.count(3), 1);
        check.due("7: last", Kit.drop(x, t, "c/d"), 1);
        check.due("7: only one", Kit.drop(x, t, "b"), 0);
        check.due("7: put again", Kit.put(x, t, "c", "4"), 1);
        check.due("7: what was there is gone", Kit.files(x, t), "c=4");
    }

    private static void file() {
        PatchChains x = new PatchChains();
        int t = Kit.tree(x, "bb/c", "content", "bb/a", "", "b", "\u0000\u00ff\u0080");
        int[] lengths = {1, 4, 4};
        String[] contents = {"\u0000\u00ff\u0080", "", "content"};
        for (int i = 0; i < 3; i++) {
            check.due("8: path of " + i, x.file(t, i, 0), lengths[i]);
            check.due("8: content of " + i, x.file(t, i, 1), contents[i].length());
            check.due("8: sum of " + i, x.file(t, i, 2), Kit.sum(contents[i]));
        }
        check.due("8: sum of no bytes", x.file(t, 1, 2), 5381);
        // 33 * 5381 = 177573, xor 0 = 46501 in 16 bits; 33 * 46501 = 1534533, xor 255 = 27322; * 33, xor 128
        check.due("8: sum by hand", x.file(t, 0, 2), (33 * ((33 * 46501 ^ 255) & 65535) ^ 128) & 65535);
        for (int i : new int[] {-1, 3, 5, Integer.MIN_VALUE, Integer.MAX_VALUE}) {
            check.due("8: how many, whatever i", x.file(t, i, 3), 3);
            for (int what = 0; what <= 2; what++) {
                check.due("8: no file " + i, x.file(t, i, what), PatchChains.BAD);
            }
        }
        for (int what : new int[] {-1, 4, Integer.MIN_VALUE, Integer.MAX_VALUE}) {
            check.due("8: no such what", x.file(t, 0, what), PatchChains.BAD);
        }
        for (int wild : WILD) {
            check.due("8: no tree", x.file(wild, 0, 3), PatchChains.BAD);
        }
        check.due("8: no tree -1", x.file(-1, 0, 3), PatchChains.BAD);
        check.due("8: no tree 1", x.file(1, 0, 3), PatchChains.BAD);
    }

    private static void byteOf() {
        PatchChains x = new PatchChains();
        int t = Kit.tree(x, "b/c", "\u00ffx", "a", "");
        check.due("9: content 0", x.byteOf(t, 1, 0, 0), 255);
        check.due("9: content 1", x.byteOf(t, 1, 0, 1), (int) 'x');
        check.due("9: content 2", x.byteOf(t, 1, 0, 2), PatchChains.BAD);
        check.due("9: content -1", x.byteOf(t, 1, 0, -1), PatchChains.BAD);
        check.due("9: path 1", x.byteOf(t, 1, 1, 1), (int) '/');
        check.due("9: path 3", x.byteOf(t, 1, 1, 3), PatchChains.BAD);
        check.due("9: no bytes", x.byteOf(t, 0, 0, 0), PatchChains.BAD);
        check.due("9: path of the first", x.byteOf(t, 0, 1, 0), (int) 'a');
        check.due("9: side 2", x.byteOf(t, 1, 2, 0), PatchChains.BAD);
        check.due("9: side -1", x.byteOf(t, 1, -1, 0), PatchChains.BAD);
        check.due("9: file 2", x.byteOf(t, 2, 0, 0), PatchChains.BAD);
        check.due("9: file -1", x.byteOf(t, -1, 1, 0), PatchChains.BAD);
        for (int wild : WILD) {
            check.due("9: tree " + wild, x.byteOf(wild, 0, 1, 0), PatchChains.BAD);
            check.due("9: file " + wild, x.byteOf(t, wild, 1, 0), PatchChains.BAD);
            check.due("9: side " + wild, x.byteOf(t, 1, wild, 0), PatchChains.BAD);
            check.due("9: byte " + wild, x.byteOf(t, 1, 1, wild), PatchChains.BAD);
        }
    }

    private static void same() {
        PatchChains x = new PatchChains();
        int t = Kit.tree(x, "a", "1", "b/c", "2");
        int u = Kit.tree(x, "b/c", "2", "a", "1");
        int otherContent = Kit.tree(x, "a", "1", "b/c", "3");
        int otherPath = Kit.tree(x, "a", "1", "b/d", "2");
        int fewer = Kit.tree(x, "a", "1");
        String[] twins = Kit.twins();
        int one = Kit.tree(x, "a", twins[0]);
        int two = Kit.tree(x, "a", twins[1]);
        check.due("10: with itself", x.same(t, t), 1);
        check.due("10: put in another order", x.same(t, u), 1);
        check.due("10: another content", x.same(t, otherContent), 0);
        check.due("10: another path", x.same(t, otherPath), 0);
        check.due("10: fewer", x.same(t, fewer), 0);
        check.due("10: more", x.same(fewer, t), 0);
        check.due("10: the same sum is not enough", x.same(one, two), 0);
        check.due("10: none such", x.same(t, 7), PatchChains.BAD);
        check.due("10: none such first", x.same(-1, t), PatchChains.BAD);
        for (int wild : WILD) {
            check.due("10: wild", x.same(wild, t), PatchChains.BAD);
            check.due("10: wild behind", x.same(t, wild), PatchChains.BAD);
        }
    }

    private static void clear() {
        PatchChains x = new PatchChains();
        check.due("11: nothing", x.clear(), 0);
        Kit.tree(x, "a", "1");
        Kit.tree(x, "a", "2", "b", "3");
        x.patch(0, 1);
        x.install(1);
        x.apply(0, 1, true);
        Kit.feed(x, "tape");
        check.due("11: how many there were", x.clear(), 2);
        check.due("11: no trees", x.count(0), 0);
        check.due("11: no patches", x.count(1), 0);
        check.due("11: the tape stays", x.count(2), 4);
        check.due("11: the path stays", x.count(3), 1);
        check.due("11: the disk stays", x.count(4), 2);
        check.due("11: the latest apply stays the latest", Kit.conflicts(x), "0:2");
        check.due("11: tree 0 is gone", x.file(0, 0, 3), PatchChains.BAD);
        check.due("11: patch 0 is gone", x.step(0, 0, 9), PatchChains.BAD);
        check.due("11: numbers from 0 on", x.tree(-1), 0);
        check.due("11: empty", x.file(0, 0, 3), 0);
        check.due("11: patches from 0 on", x.patch(0, 0), 0);
        check.due("11: no steps", x.step(0, 0, 9), 0);
        check.due("11: what counts on the disk", x.open(), 1);
        check.due("11: as it was", Kit.files(x, 1), "a=2 b=3");
    }
}
