/** Promises 1 to 11: each sentence that names a boundary case, tried by itself on new objects. */
public final class EdgesOfTreesTest {
    private static final Check check = new Check();
    private static final String FORTY_EIGHT = Kit.letters('0', 48);

    public static void main(String[] args) {
        newObject();
        feed();
        end();
        path();
        tree();
        putRefused();
        putWithTape();
        putInTheWay();
        putWhenFull();
        drop();
        file();
        byteOf();
        same();
        clear();
        check.finish();
    }

    private static void due(String what, Object got, Object want) {
        check.due(what, got, want);
    }

    private static void newObject() {
        check.edge("1: No TREES", x -> {
            due("count(0)", x.count(0), 0);
            check.bad("tree 0", x.file(0, 0, 3));
            check.bad("a copy of it", x.tree(0));
            due("the first one is 0", x.tree(-1), 0);
        });
        check.edge("1: no PATCHES", x -> {
            due("count(1)", x.count(1), 0);
            check.bad("patch 0", x.step(0, 0, 9));
            check.bad("its inverse", x.inverse(0));
            check.bad("chain", x.chain(0, 0));
            due("the first one is 0", x.patch(x.tree(-1), 0), 0);
        });
        check.edge("1: an empty TAPE", x -> {
            due("count(2)", x.count(2), 0);
            check.bad("no twenty bytes", x.end(0));
            check.bad("no path", x.path());
            due("twenty then", x.feed(0, 0, 0, 0, 0), 20);
        });
        check.edge("1: no PATH at hand", x -> {
            due("count(3)", x.count(3), 0);
            check.bad("put", x.put(x.tree(-1)));
            check.bad("drop", x.drop(0));
        });
        check.edge("1: an empty DISK", x -> {
            due("files", x.count(4), 0);
            due("writings", x.count(5), 0);
            due("switch", x.count(7), 0);
            due("slots", Kit.slots(x), "");
            due("opened", x.open(), 0);
            due("without files", x.file(0, 0, 3), 0);
        });
        check.edge("1: with POWER for ever", x -> {
            due("not down", x.count(6), 0);
            x.tree(-1);
            for (int i = 0; i < 60; i++) {
                due("install " + i, x.install(0), 2);
            }
            due("120 writings", x.count(5), 120);
        });
    }

    private static void feed() {
        check.edge("2: Twenty bytes come behind the TAPE, the highest of each number first", x -> {
            Kit.path(x, "f");
            due("twenty", x.feed(0x00010203, 0x7F80FEFF, -1, Integer.MIN_VALUE, Integer.MAX_VALUE), 20);
            due("forty", x.feed(0x41424344, 0x45464748, 0x494A4B4C, 0x4D4E4F50, 0x51525354), 40);
            x.put(x.tree(-1));
            due("all", Kit.content(x, 0, 0), "\u0000\u0001\u0002\u0003\u007f\u0080\u00fe\u00ff\u00ff\u00ff\u00ff\u00ff"
                + "\u0080\u0000\u0000\u0000\u007f\u00ff\u00ff\u00ffABCDEFGHIJKLMNOPQRST");
        });
        check.edge("2: FULL: above 80", x -> {
            for (int n = 20; n <= 80; n += 20) {
                due("up to " + n, x.feed(0x41414141, 0x42424242, 0x43434343, 0x44444444, 0x45454545), n);
            }
            due("100", x.feed(0, 0, 0, 0, 0), PatchChains.FULL);
            due("80 stay", x.count(2), 80);
            due("of the last twenty one", x.end(1), 61);
            due("81", x.feed(0, 0, 0, 0, 0), PatchChains.FULL);
            due("61 stay", x.count(2), 61);
            due("of the last twenty 19", x.end(19), 60);
            due("80 once more", x.feed(0, 0, 0, 0, 0), 80);
        });
        check.edge("2: FULL: .. (what the TAPE has stays)", x -> {
            Kit.path(x, "f");
            for (int k = 0; k < 4; k++) {
                x.feed(0x41414141 + k * 0x01010101, 0, 0, 0, 0x61616161);
            }
            x.feed(-1, -1, -1, -1, -1);
            x.end(0);
            x.end(0);
            x.put(x.tree(-1));
            String zeros = "\u0000".repeat(12);
            due("the first forty", Kit.content(x, 0, 0), "AAAA" + zeros + "aaaaBBBB" + zeros + "aaaa");
        });
    }

    private static void end() {
        check.edge("3: Of the last twenty bytes of the TAPE the first n (0 .. 20) stay", x -> {
            for (int n = 0; n <= 20; n++) {
                x.feed(0, 0, 0, 0, 0);
                due("of twenty " + n, x.end(n), n);
                x.path();
            }
            Kit.path(x, "f");
            x.feed(0x41424344, 0x45464748, 0x494A4B4C, 0x4D4E4F50, 0x51525354);
            x.feed(0x61626364, 0x65666768, 0x696A6B6C, 0x6D6E6F70, 0x71727374);
            due("of forty 23", x.end(3), 23);
            due("of 23 nine", x.end(6), 9);
            x.put(x.tree(-1));
            due("the first nine", Kit.content(x, 0, 0), "ABCDEFGHI");
        });
        check.edge("3: BAD: another n", x -> {
            x.feed(0, 0, 0, 0, 0);
            for (int n : Kit.outside(21)) {
                check.bad("" + n, x.end(n));
                due("the tape stays", x.count(2), 20);
            }
        });
        check.edge("3: BAD: .. fewer than twenty are there", x -> {
            check.bad("none, n 0", x.end(0));
            check.bad("none, n 20", x.end(20));
            x.feed(0, 0, 0, 0, 0);
            due("twenty", x.end(19), 19);
            for (int n : new int[] {0, 1, 19, 20}) {
                check.bad("nineteen, n " + n, x.end(n));
            }
            due("they stay", x.count(2), 19);
            x.feed(0, 0, 0, 0, 0);
            due("39 are enough", x.end(1), 20);
            due("twenty are enough", x.end(0), 0);
        });
    }

    private static void path() {
        check.edge("4: The TAPE, which is empty then, is the PATH at hand: how many names", x -> {
            due("three", Kit.path(x, "abc/d/efghi"), 3);
            due("the tape is empty", x.count(2), 0);
            due("eleven bytes", x.count(3), 11);
            due("another one", Kit.path(x, "z"), 1);
            due("one byte", x.count(3), 1);
        });
        check.edge("4: BAD: it is no PATH (the TAPE is empty then, too; ..)", x -> {
            Kit.feed(x, FORTY_EIGHT);
            check.bad("48 bytes", x.path());
            due("the tape is empty", x.count(2), 0);
            check.bad("no bytes", x.path());
            x.feed(0, 0, 0, 0, 0);
            x.feed(0, 0, 0, 0, 0);
            x.feed(0, 0, 0, 0, 0);
            x.feed(0, 0, 0, 0, 0);
            check.bad("80 bytes", x.path());
            due("the tape is empty again", x.count(2), 0);
        });
        check.edge("4: BAD: it is no PATH (..; the one at hand stays)", x -> {
            check.bad("none at hand", Kit.path(x, "A"));
            due("none still", x.count(3), 0);
            Kit.path(x, "a/bc");
            check.bad("longer", Kit.path(x, "d/e/f/g"));
            check.bad("shorter", Kit.path(x, "1"));
            check.bad("no bytes", x.path());
            due("four bytes", x.count(3), 4);
            x.put(x.tree(-1));
            due("it is at hand", Kit.files(x, 0), "a/bc=");
        });
    }

    private static void tree() {
        check.edge("5: (t = - 1: without FILES)", x -> {
            Kit.tree(x, "a", "1");
            due("number", x.tree(-1), 1);
            due("files", x.file(1, 0, 3), 0);
            x.clear();
            due("number 0 again", x.tree(-1), 0);
            due("without those it had", x.file(0, 0, 3), 0);
        });
        check.edge("5: A TREE more, a copy of TREE t", x -> {
            int t = Kit.tree(x, "a", "1", "b", "", "c/d", FORTY_EIGHT);
            due("number", x.tree(t), 1);
            due("the same", x.same(0, 1), 1);
            Kit.drop(x, 0, "b");
            Kit.put(x, 1, "a", "2");
            due("the first alone", Kit.files(x, 0), "a=1 c/d=" + FORTY_EIGHT);
            due("the copy alone", Kit.files(x, 1), "a=2 b= c/d=" + FORTY_EIGHT);
        });
        check.edge("5: .. a copy of TREE t (of ten FILES)", x -> {
            int t = tenFiles(x);
            due("number", x.tree(t), 1);
            due("all ten", x.same(0, 1), 1);
            due("a copy of none", x.same(x.tree(x.tree(-1)), 2), 1);
        });
        check.edge("5: BAD: none such", x -> {
            check.bad("none is there", x.tree(0));
            x.tree(-1);
            x.tree(-1);
            for (int t : new int[] {-2, 2, 3, 11, 12, Integer.MIN_VALUE, Integer.MAX_VALUE}) {
                check.bad("" + t, x.tree(t));
            }
            due("two still", x.count(0), 2);
        });
        check.edge("5: FULL: 12", x -> {
            for (int t = 0; t < 12; t++) {
                due("number", x.tree(t - 1), t);
            }
            due("the 13th", x.tree(-1), PatchChains.FULL);
            due("a copy", x.tree(11), PatchChains.FULL);
            check.bad("of none such", x.tree(12));
            due("twelve still", x.count(0), 12);
            x.clear();
            due("then there is room", x.tree(-1), 0);
        });
    }

    private static void putRefused() {
        check.edge("6: BAD: no such TREE (the TAPE stays)", x -> {
            int t = Kit.tree(x, "a", "1");
            Kit.feed(x, "new");
            for (int wrong : Kit.outside(1)) {
                check.bad("" + wrong, x.put(wrong));
                due("the tape", x.count(2), 3);
            }
            due("the file", Kit.files(x, t), "a=1");
        });
        check.edge("6: BAD: .. no PATH at hand (the TAPE stays)", x -> {
            x.tree(-1);
            check.bad("no bytes", x.put(0));
            Kit.feed(x, "new");
            check.bad("three bytes", x.put(0));
            due("the tape", x.count(2), 3);
            due("no file", x.file(0, 0, 3), 0);
        });
        check.edge("6: BAD: .. above 48 bytes (the TAPE stays)", x -> {
            int t = Kit.tree(x, "a", "1");
            Kit.feed(x, FORTY_EIGHT + "!");
            check.bad("49", x.put(t));
            due("the tape", x.count(2), 49);
            due("the file", Kit.files(x, t), "a=1");
            x.end(19);
            due("48", x.put(t), 1);
            due("all of them", Kit.files(x, t), "a=" + FORTY_EIGHT);
        });
    }

    private static void putWithTape() {
        check.edge("6: The TAPE, which is empty then, is the CONTENT", x -> {
            int t = Kit.tree(x, "a", "1");
            due("the tape is empty", x.count(2), 0);
            due("which is a content too", x.put(t), 1);
            due("of no bytes", Kit.files(x, t), "a=");
            Kit.feed(x, FORTY_EIGHT);
            due("48 bytes", x.put(t), 1);
            due("the tape is empty again", x.count(2), 0);
            Kit.feed(x, "x");
            due("fewer than before", x.put(t), 1);
            due("all of them", Kit.files(x, t), "a=x");
            due("the path is at hand still", x.count(3), 1);
        });
    }

    private static void putInTheWay() {
        check.edge("6: NONE: another FILE stands in the way (a PATH up to a / )", x -> {
            int t = Kit.tree(x, "a/b", "1");
            due("below", Kit.put(x, t, "a/b/c", "new"), PatchChains.NONE);
            due("the tape stays", x.count(2), 3);
            x.path();
            due("above", Kit.put(x, t, "a", "12"), PatchChains.NONE);
            due("the tape stays too", x.count(2), 2);
            x.path();
            due("the file", Kit.files(x, t), "a/b=1");
            due("with its own path", Kit.put(x, t, "a/b", ""), 1);
            Kit.drop(x, t, "a/b");
            due("nothing is in the way any more", Kit.put(x, t, "a", "new"), 1);
        });
    }

    private static int tenFiles(PatchChains x) {
        int t = x.tree(-1);
        for (int i = 0; i < 10; i++) {
            Kit.put(x, t, "m/" + (char) ('a' + i), "" + i);
        }
        return t;
    }

    private static void putWhenFull() {
        check.edge("6: FULL: 10", x -> {
            int t = tenFiles(x);
            due("the 11th", Kit.put(x, t, "z", "new"), PatchChains.FULL);
            due("ten still", x.file(t, 0, 3), 10);
            Kit.path(x, "a");
            due("the first in order too", x.put(t), PatchChains.FULL);
        });
        check.edge("6: (With these the TAPE stays, too.)", x -> {
            int t = tenFiles(x);
            Kit.put(x, t, "z", "new");
            due("FULL", x.count(2), 3);
            x.path();
            int u = Kit.tree(x, "a", "");
            due("NONE", Kit.put(x, u, "a/b", "12"), PatchChains.NONE);
            due("the tape", x.count(2), 2);
        });
        check.edge("6: FULL: 10 (not for a FILE that is there)", x -> {
            int t = tenFiles(x);
            due("another content", Kit.put(x, t, "m/e", "new"), 10);
            due("the tape is empty", x.count(2), 0);
            due("it has it", Kit.content(x, t, 4), "new");
        });
    }

    private static void drop() {
        check.edge("7: BAD: no such TREE", x -> {
            int t = Kit.tree(x, "a", "1");
            for (int wrong : Kit.outside(1)) {
                check.bad("" + wrong, x.drop(wrong));
            }
            due("the file", Kit.files(x, t), "a=1");
        });
        check.edge("7: BAD: .. no PATH at hand", x -> check.bad("drop", x.drop(x.tree(-1))));
        check.edge("7: BAD: .. no such FILE", x -> {
            int t = Kit.tree(x, "a/b", "1", "c", "2");
            for (String path : new String[] {"a", "a/b/c", "a/bb", "b", "d", "cc", "c/d"}) {
                check.bad(path, Kit.drop(x, t, path));
            }
            due("both are there", Kit.files(x, t), "a/b=1 c=2");
            check.bad("a tree without files", Kit.drop(x, x.tree(-1), "c"));
        });
        check.edge("7: The FILE with the PATH at hand goes: how many are left", x -> {
            int t = tenFiles(x);
            due("the last one", Kit.drop(x, t, "m/j"), 9);
            due("the first one", Kit.drop(x, t, "m/a"), 8);
            due("one between", Kit.drop(x, t, "m/e"), 7);
            due("the others", Kit.files(x, t), "m/b=1 m/c=2 m/d=3 m/f=5 m/g=6 m/h=7 m/i=8");
            check.bad("once more", x.drop(t));
            due("down to none", Kit.drop(x, Kit.tree(x, "a", ""), "a"), 0);
            due("the path is at hand still", x.count(3), 1);
        });
        check.edge("7: The FILE .. goes (and another one comes)", x -> {
            int t = Kit.tree(x, "a", "1", "b", "2", "c", "3");
            Kit.drop(x, t, "a");
            due("in its row", Kit.put(x, t, "d", "4"), 3);
            due("the others stay", Kit.files(x, t), "b=2 c=3 d=4");
            Kit.drop(x, t, "c");
            Kit.put(x, t, "a", "5");
            due("those too", Kit.files(x, t), "a=5 b=2 d=4");
            Kit.drop(x, t, "d");
            Kit.put(x, t, "aa", "");
            due("and these", Kit.files(x, t), "a=5 aa= b=2");
        });
        check.edge("7: (the TAPE is not asked)", x -> {
            int t = Kit.tree(x, "a", "1");
            Kit.feed(x, FORTY_EIGHT + "!");
            due("gone", x.drop(t), 0);
            due("the tape", x.count(2), 49);
        });
    }

    private static void file() {
        check.edge("8: 3 (whatever i): how many FILES", x -> {
            int t = Kit.tree(x, "a", "", "b", "");
            for (int i : new int[] {-2, -1, 0, 1, 2, 10, Integer.MIN_VALUE, Integer.MAX_VALUE}) {
                due("i = " + i, x.file(t, i, 3), 2);
            }
            due("none", x.file(x.tree(-1), 0, 3), 0);
        });
        check.edge("8: BAD: none such (TREE)", x -> {
            Kit.tree(x, "a", "");
            for (int t : Kit.outside(1)) {
                for (int what = 0; what <= 3; what++) {
                    check.bad(t + ", " + what, x.file(t, 0, what));
                }
            }
        });
        check.edge("8: BAD: none such (FILE)", x -> {
            int t = Kit.tree(x, "a", "", "b", "1");
            for (int i : Kit.outside(2)) {
                for (int what = 0; what <= 2; what++) {
                    check.bad(i + ", " + what, x.file(t, i, what));
                }
            }
            due("the last one", x.file(t, 1, 1), 1);
            check.bad("of no files", x.file(x.tree(-1), 0, 0));
        });
        check.edge("8: BAD: none such (what)", x -> {
            int t = Kit.tree(x, "a", "");
            for (int what : Kit.outside(4)) {
                check.bad("" + what, x.file(t, 0, what));
            }
        });
        check.edge("8: 0 bytes of its PATH, 1 of its CONTENT", x -> {
            int t = Kit.tree(x, "abcde/fghij/klmno", FORTY_EIGHT, "a", "");
            due("the shortest path", x.file(t, 0, 0), 1);
            due("the shortest content", x.file(t, 0, 1), 0);
            due("the longest path", x.file(t, 1, 0), 17);
            due("the longest content", x.file(t, 1, 1), 48);
        });
    }

    private static void byteOf() {
        check.edge("9: Byte k of FILE i's CONTENT (side 0), PATH (1)", x -> {
            int t = Kit.tree(x, "abcde/fghij/klmno", "\u0000" + FORTY_EIGHT.substring(2) + "\u00ff");
            due("first of the content", x.byteOf(t, 0, 0, 0), 0);
            due("last of the content", x.byteOf(t, 0, 0, 47), 255);
            due("first of the path", x.byteOf(t, 0, 1, 0), (int) 'a');
            due("a / of the path", x.byteOf(t, 0, 1, 5), (int) '/');
            due("last of the path", x.byteOf(t, 0, 1, 16), (int) 'o');
        });
        check.edge("9: BAD: none such (byte)", x -> {
            int t = Kit.tree(x, "a/b", "12345", "c", "", "d", FORTY_EIGHT);
            for (int k : Kit.outside(5)) {
                check.bad("content " + k, x.byteOf(t, 0, 0, k));
            }
            for (int k : Kit.outside(3)) {
                check.bad("path " + k, x.byteOf(t, 0, 1, k));
            }
            check.bad("of no bytes", x.byteOf(t, 1, 0, 0));
            check.bad("behind 48", x.byteOf(t, 2, 0, 48));
        });
        check.edge("9: BAD: none such (byte of a shorter CONTENT than before)", x -> {
            int t = Kit.tree(x, "a", FORTY_EIGHT);
            Kit.put(x, t, "a", "1");
            check.bad("byte 1", x.byteOf(t, 0, 0, 1));
        });
        check.edge("9: BAD: none such (side, FILE, TREE)", x -> {
            int t = Kit.tree(x, "a", "1", "b", "2");
            for (int side : Kit.outside(2)) {
                check.bad("side " + side, x.byteOf(t, 0, side, 0));
            }
            for (int i : Kit.outside(2)) {
                check.bad("content of file " + i, x.byteOf(t, i, 0, 0));
                check.bad("path of file " + i, x.byteOf(t, i, 1, 0));
            }
            for (int wrong : Kit.outside(1)) {
                check.bad("content, tree " + wrong, x.byteOf(wrong, 0, 0, 0));
                check.bad("path, tree " + wrong, x.byteOf(wrong, 0, 1, 0));
            }
        });
    }

    private static void same() {
        check.edge("10: Whether two TREES have the same FILES", x -> {
            int t = Kit.tree(x, "a", "1", "b", "");
            due("with itself", x.same(t, t), 1);
            due("with its copy", x.same(t, x.tree(t)), 1);
            due("without files", x.same(x.tree(-1), x.tree(-1)), 1);
            due("some and none", x.same(t, 2), 0);
            due("none and some", x.same(2, t), 0);
            due("one file less", x.same(t, Kit.tree(x, "a", "1")), 0);
            due("one file more", x.same(4, t), 0);
            due("another byte", x.same(t, Kit.tree(x, "a", "2", "b", "")), 0);
            due("a byte more", x.same(t, Kit.tree(x, "a", "1", "b", "1")), 0);
            due("another path", x.same(t, Kit.tree(x, "a", "1", "bb", "")), 0);
            String[] twins = Kit.twins();
            due("the same sum", x.same(Kit.tree(x, "a", twins[0]), Kit.tree(x, "a", twins[1])), 0);
        });
        check.edge("10: BAD: none such", x -> {
            check.bad("none at all", x.same(0, 0));
            x.tree(-1);
            for (int t : Kit.outside(1)) {
                check.bad("the first, " + t, x.same(t, 0));
                check.bad("the second, " + t, x.same(0, t));
                check.bad("both, " + t, x.same(t, t));
            }
        });
    }

    /** All rows for trees and patches are full of what must not be seen again. */
    private static void fillAll(PatchChains x) {
        int a = Kit.tree(x, "x/x", FORTY_EIGHT, "y/y", "!" + FORTY_EIGHT.substring(1), "z", "z");
        int b = Kit.tree(x, "x/x", FORTY_EIGHT.substring(9), "v", "", "w", "z");
        for (int p = 0; p < 8; p++) {
            x.patch(a, b);
        }
        while (x.count(0) < 12) {
            x.tree(a);
        }
    }

    private static void useAll(PatchChains x, String one, String two) {
        int a = Kit.tree(x, "a", one, "b", two, "c", one);
        int b = Kit.tree(x, "a", two, "d", two, "e", two + "?");
        int p = x.patch(a, b);
        x.chain(p, x.inverse(p));
        x.patch(b, b);
        x.install(x.apply(p, a, true));
        x.open();
        x.tree(a);
        x.tree(-1);
    }

    private static String told(PatchChains x) {
        StringBuilder told = new StringBuilder();
        for (int p = 0; p < x.count(1); p++) {
            told.append(Kit.steps(x, p)).append(" | ");
        }
        for (int t = 0; t < x.count(0); t++) {
            told.append(Kit.files(x, t)).append(" | ");
        }
        return told.toString();
    }

    private static void clear() {
        check.edge("11: how many TREES there were", x -> {
            due("none", x.clear(), 0);
            x.tree(-1);
            due("one", x.clear(), 1);
            due("none again", x.clear(), 0);
            for (int t = 0; t < 12; t++) {
                x.tree(-1);
            }
            due("twelve", x.clear(), 12);
            due("count", x.count(0), 0);
        });
        check.edge("11: All TREES and PATCHES go", x -> {
            int t = Kit.tree(x, "a", "1");
            for (int p = 0; p < 8; p++) {
                x.patch(t, t);
            }
            x.clear();
            check.bad("tree", x.file(0, 0, 3));
            check.bad("patch", x.step(0, 0, 9));
            due("no patches", x.count(1), 0);
            due("a new tree", x.tree(-1), 0);
            due("without files", x.file(0, 0, 3), 0);
            due("a new patch", x.patch(0, 0), 0);
        });
        check.edge("11: All TREES and PATCHES go (nothing of them comes back)", x -> {
            fillAll(x);
            x.clear();
            useAll(x, "abc", "abcd");
            PatchChains anew = new PatchChains();
            useAll(anew, "abc", "abcd");
            due("trees", x.count(0), 6);
            due("patches", x.count(1), 4);
            due("as on a new object", told(x), told(anew));
        });
        check.edge("11: (THE DISK stays)", x -> {
            int t = Kit.tree(x, "a", "1", "b", "2");
            x.install(t);
            x.power(1);
            due("one", x.clear(), 1);
            due("files", x.count(4), 2);
            due("writings", x.count(5), 4);
            due("switch", x.count(7), 1);
            x.tree(-1);
            due("power", x.install(0), PatchChains.DOWN);
            x.clear();
            due("down", x.count(6), 1);
            due("what counts", Kit.files(x, x.open()), "a=1 b=2");
        });
        check.edge("11: (TAPE and PATH at hand are no TREES)", x -> {
            Kit.tree(x, "abc", "1");
            Kit.feed(x, "tape");
            x.clear();
            due("the tape", x.count(2), 4);
            due("the path", x.count(3), 3);
        });
    }
}
