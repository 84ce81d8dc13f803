/** Promises 20 to 24: power, install, open, slot, count. */
public final class DiskTest {
    private static final Check check = new Check();
    private static final int[] WILD = {-2, 41, 100, Integer.MIN_VALUE, Integer.MAX_VALUE};

    public static void main(String[] args) {
        power();
        installs();
        slotsAreUsedAgain();
        contentMovesBetweenPaths();
        wherePowerFails();
        open();
        slot();
        count();
        check.finish();
    }

    private static void power() {
        PatchChains x = new PatchChains();
        int t = x.tree(-1);
        check.due("20: 0", x.power(0), 1);
        check.due("20: 40", x.power(40), 1);
        check.due("20: for ever", x.power(-1), 1);
        for (int wild : WILD) {
            check.due("20: " + wild, x.power(wild), PatchChains.BAD);
        }
        check.due("20: still for ever", x.install(t), 2);
        x.power(2);
        check.due("20: just enough", x.install(t), 2);
        check.due("20: not down yet", x.count(6), 0);
        check.due("20: anew for 2", x.power(2), 1);
        check.due("20: enough again", x.install(t), 2);
        check.due("20: none left", x.install(t), PatchChains.DOWN);
        check.due("20: down", x.count(6), 1);
        check.due("20: DOWN", x.power(5), PatchChains.DOWN);
        check.due("20: DOWN for ever too", x.power(-1), PatchChains.DOWN);
        check.due("20: BAD ahead of DOWN", x.power(41), PatchChains.BAD);
        check.due("20: install is DOWN", x.install(t), PatchChains.DOWN);
        check.due("21: BAD ahead of DOWN", x.install(1), PatchChains.BAD);
        check.due("20: writings", x.count(5), 6);
        x.power(0);
        x.open();
        x.power(0);
        check.due("20: no writing at all", x.install(t), PatchChains.DOWN);
        check.due("20: writings stay", x.count(5), 6);
        x.open();
        x.power(40);
        for (int i = 0; i < 20; i++) {
            check.due("20: 40 writings", x.install(t), 2);
        }
        check.due("20: the 41st", x.install(t), PatchChains.DOWN);
    }

    private static void installs() {
        PatchChains x = new PatchChains();
        check.due("21: none", x.install(0), PatchChains.BAD);
        int t = Kit.tree(x, "b", "two", "a", "one", "c", "");
        for (int wild : new int[] {-1, 1, 12, Integer.MIN_VALUE, Integer.MAX_VALUE}) {
            check.due("21: " + wild, x.install(wild), PatchChains.BAD);
        }
        check.due("21: three files, the list, the switch", x.install(t), 5);
        check.due("21: a", x.slot(0, 1), Kit.sum("one"));
        check.due("21: b", x.slot(1, 1), Kit.sum("two"));
        check.due("21: c has no bytes, but is written", x.slot(2, 0), 0);
        check.due("21: the switch", x.count(7), 1);
        check.due("21: files", x.count(4), 3);
        check.due("21: again, only list and switch", x.install(t), 2);
        check.due("21: the switch again", x.count(7), 0);
        check.due("21: files again", x.count(4), 3);
        check.due("21: no tree is made", x.count(0), 1);
    }

    private static void slotsAreUsedAgain() {
        PatchChains x = new PatchChains();
        int t = Kit.tree(x, "a", "one", "b", "two");
        x.install(t);
        Kit.put(x, t, "a", "ONE");
        check.due("21: a is written anew", x.install(t), 3);
        check.due("21: not over what counts", x.slot(0, 1), Kit.sum("one"));
        check.due("21: the least free one", x.slot(2, 1), Kit.sum("ONE"));
        check.due("21: slot 0 is free now", x.slot(0, 2), 0);
        check.due("21: slot 1 stays", x.slot(1, 2), 1);
        Kit.put(x, t, "a", "eins");
        Kit.put(x, t, "c", "drei");
        check.due("21: two are written", x.install(t), 4);
        check.due("21: the least one", x.slot(0, 1), Kit.sum("eins"));
        check.due("21: the next one, not one taken now", x.slot(3, 1), Kit.sum("drei"));
        check.due("21: slot 2 is free now", x.slot(2, 2), 0);
        int empty = x.tree(-1);
        check.due("21: no files", x.install(empty), 2);
        check.due("21: nothing is listed", x.count(4), 0);
        check.due("21: all anew, though the slots have it", x.install(t), 5);
        check.due("21: from the least on", x.slot(0, 1), Kit.sum("eins"));
        check.due("21: b is in slot 1", x.slot(1, 1), Kit.sum("two"));
        check.due("21: c is in slot 2", x.slot(2, 1), Kit.sum("drei"));
        check.due("21: slot 3 stays as it was", x.slot(3, 2), 0);
    }

    /** A slot counts only for its own path; and a sum is no content. */
    private static void contentMovesBetweenPaths() {
        PatchChains x = new PatchChains();
        String[] twins = Kit.twins();
        x.install(Kit.tree(x, "a", "one", "b", twins[0]));
        check.due("21: the same content under another path is written", x.install(Kit.tree(x, "c", "one")), 3);
        check.due("21: into slot 2", x.slot(2, 2), 1);
        x.install(Kit.tree(x, "b", twins[0]));
        check.due("21: another content with the same sum is written", x.install(Kit.tree(x, "b", twins[1])), 3);
        check.due("21: read back", Kit.files(x, x.open()), "b=" + twins[1]);
    }

    private static void wherePowerFails() {
        for (int n = 0; n <= 5; n++) {
            PatchChains x = new PatchChains();
            int before = Kit.tree(x, "a", "one", "b", "two");
            int after = Kit.tree(x, "a", "ONE", "b", "two", "c", "three");
            x.install(before);
            x.power(n);
            int answer = x.install(after);
            check.due("21: power " + n, answer, n < 4 ? PatchChains.DOWN : 4);
            check.due("21: down " + n, x.count(6), n < 4 ? 1 : 0);
            check.due("21: writings " + n, x.count(5), 4 + Math.min(n, 4));
            check.due("21: first slot " + n, x.slot(2, 0), n < 1 ? PatchChains.NONE : 3);
            check.due("21: second slot " + n, x.slot(3, 0), n < 2 ? PatchChains.NONE : 5);
            check.due("21: switch " + n, x.count(7), n < 4 ? 1 : 0);
            check.due("21: list that counts " + n, x.count(4), n < 4 ? 2 : 3);
            int opened = x.open();
            check.due("22: wholly or not at all " + n, x.same(opened, n < 4 ? before : after), 1);
            check.due("22: power is for ever", x.install(after), n < 4 ? 4 : 2);
            check.due("22: then it stands", x.same(x.open(), after), 1);
        }
    }

    private static void open() {
        PatchChains x = new PatchChains();
        check.due("22: nothing counts", x.open(), 0);
        check.due("22: no files", x.file(0, 0, 3), 0);
        int t = Kit.tree(x, "a/b", "one", "a/c", "");
        x.install(t);
        check.due("22: number", x.open(), 2);
        check.due("22: the files", Kit.files(x, 2), "a/b=one a/c=");
        Kit.put(x, 2, "a/b", "other");
        check.due("22: the disk stays", Kit.files(x, x.open()), "a/b=one a/c=");
        x.power(1);
        x.open();
        check.due("22: power for ever though not down", x.install(2), 3);
        x.power(0);
        x.install(t);
        for (int n = x.count(0); n < 12; n++) {
            x.tree(-1);
        }
        check.due("22: full", x.open(), PatchChains.FULL);
        check.due("22: nothing changes", x.count(6), 1);
        x.clear();
        check.due("22: goes on", x.open(), 0);
        check.due("22: not down any more", x.count(6), 0);
        x.power(1);
        for (int n = x.count(0); n < 12; n++) {
            x.tree(-1);
        }
        x.open();
        check.due("22: FULL leaves power as it was", x.install(0), PatchChains.DOWN);
    }

    private static void slot() {
        PatchChains x = new PatchChains();
        int t = Kit.tree(x, "a", "one");
        x.install(t);
        check.due("23: bytes", x.slot(0, 0), 3);
        check.due("23: sum", x.slot(0, 1), Kit.sum("one"));
        check.due("23: listed", x.slot(0, 2), 1);
        check.due("23: the last slot", x.slot(29, 0), PatchChains.NONE);
        check.due("23: its sum", x.slot(29, 1), PatchChains.NONE);
        check.due("23: not listed", x.slot(29, 2), 0);
        for (int wild : new int[] {-1, 30, Integer.MIN_VALUE, Integer.MAX_VALUE}) {
            for (int what = 0; what <= 2; what++) {
                check.due("23: no slot " + wild, x.slot(wild, what), PatchChains.BAD);
            }
        }
        for (int wild : new int[] {-1, 3, Integer.MIN_VALUE, Integer.MAX_VALUE}) {
            check.due("23: no what " + wild, x.slot(0, wild), PatchChains.BAD);
        }
        x.power(0);
        x.install(t);
        check.due("23: also when it is down", x.slot(0, 0), 3);
    }

    private static void count() {
        PatchChains x = new PatchChains();
        int a = Kit.tree(x, "a", "1");
        int b = Kit.tree(x, "a", "1", "b/cc", "22");
        int c = Kit.tree(x, "a", "2", "b/cc", "22", "d", "3");
        x.patch(a, b);
        x.patch(b, c);
        Kit.path(x, "abc/d");
        Kit.feed(x, "tape of 13 by");
        x.install(c);
        x.install(b);
        x.install(c);
        int[] due = {3, 2, 13, 5, 3, 5 + 3 + 4, 0, 1};
        for (int what = 0; what <= 7; what++) {
            check.due("24: " + what, x.count(what), due[what]);
        }
        x.power(0);
        x.install(a);
        check.due("24: down", x.count(6), 1);
        for (int wild : new int[] {-1, 8, Integer.MIN_VALUE, Integer.MAX_VALUE}) {
            check.due("24: " + wild, x.count(wild), PatchChains.BAD);
        }
    }
}
