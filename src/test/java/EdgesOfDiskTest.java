/** "Terms", section 4, and promises 20 to 24: each sentence that names a boundary case, tried by itself. */
public final class EdgesOfDiskTest {
    private static final Check check = new Check();

    public static void main(String[] args) {
        slotsAndLists();
        slotsThatStay();
        leastSlots();
        writings();
        whereItStops();
        power();
        powerRefused();
        install();
        open();
        openWhenFull();
        slot();
        count();
        check.finish();
    }

    private static void due(String what, Object got, Object want) {
        check.due(what, got, want);
    }

    private static String slot(int i, String content, boolean listed) {
        return i + ":" + Kit.sum(content) + (listed ? "*" : "");
    }

    private static void fillTrees(PatchChains x) {
        while (x.count(0) < 12) {
            x.tree(-1);
        }
    }

    private static int tenFiles(PatchChains x, String content) {
        int t = x.tree(-1);
        for (int i = 0; i < 10; i++) {
            Kit.put(x, t, "m/" + (char) ('a' + i), content + i);
        }
        return t;
    }

    private static void slotsAndLists() {
        check.edge("SLOTS 0 .. 29", x -> {
            check.bad("- 1", x.slot(-1, 0));
            due("0", x.slot(0, 0), PatchChains.NONE);
            due("29", x.slot(29, 0), PatchChains.NONE);
            check.bad("30", x.slot(30, 0));
        });
        check.edge("each with a CONTENT, or never WRITTEN", x -> {
            x.install(Kit.tree(x, "a", "", "b", "1"));
            due("no bytes, but written", x.slot(0, 0), 0);
            due("their sum", x.slot(0, 1), 5381);
            due("one byte", x.slot(1, 0), 1);
            due("never written", x.slot(2, 0), PatchChains.NONE);
            due("without a sum", x.slot(2, 1), PatchChains.NONE);
            x.install(x.tree(-1));
            due("a slot keeps its content", x.slot(1, 0), 1);
            due("though no list has it", x.slot(1, 2), 0);
        });
        check.edge("a SWITCH, which LIST counts (0 at first; both are empty)", x -> {
            due("at first", x.count(7), 0);
            due("list 0", x.count(4), 0);
            x.power(0);
            x.install(Kit.tree(x, "a", "1"));
            due("still", x.count(7), 0);
            x.open();
            due("nothing counts", x.count(4), 0);
            x.install(0);
            due("the other one", x.count(7), 1);
            due("has one file", x.count(4), 1);
            x.install(x.tree(-1));
            due("the first one again", x.count(7), 0);
            due("has none", x.count(4), 0);
        });
    }

    private static void slotsThatStay() {
        check.edge("if the LIST that counts has its PATH with a SLOT that has its CONTENT: that SLOT", x -> {
            int t = Kit.tree(x, "a", "one", "b", "two");
            due("all written", x.install(t), 4);
            due("none written", x.install(t), 2);
            due("slots", Kit.slots(x), slot(0, "one", true) + " " + slot(1, "two", true));
            Kit.drop(x, t, "a");
            due("one goes", x.install(t), 2);
            due("the other one stays", Kit.slots(x), slot(0, "one", false) + " " + slot(1, "two", true));
        });
        check.edge("the LIST that counts (not the other one) has its PATH", x -> {
            int t = Kit.tree(x, "a", "one");
            x.install(t);
            x.install(x.tree(-1));
            due("the other list has it", x.install(t), 3);
        });
        check.edge("the LIST that counts .. has its PATH (not: had it)", x -> {
            int both = Kit.tree(x, "a", "1", "b", "2");
            int one = Kit.tree(x, "a", "1");
            x.install(both);
            x.install(one);
            x.install(one);
            due("b is written", x.install(both), 3);
            due("it counts", x.same(x.open(), both), 1);
        });
        check.edge("has its PATH (not another one) with a SLOT that has its CONTENT", x -> {
            x.install(Kit.tree(x, "a", "one"));
            due("the content under another path", x.install(Kit.tree(x, "b", "one")), 3);
            due("is in a slot of its own", Kit.slots(x), slot(0, "one", false) + " " + slot(1, "one", true));
        });
        check.edge("with a SLOT that has its CONTENT (not another one)", x -> {
            String[] twins = Kit.twins();
            x.install(Kit.tree(x, "a", twins[0]));
            due("another content with the same length and sum", x.install(Kit.tree(x, "a", twins[1])), 3);
            due("it counts", Kit.files(x, x.open()), "a=" + twins[1]);
            due("a byte more", x.install(Kit.tree(x, "a", twins[1] + "!")), 3);
            due("no bytes", x.install(Kit.tree(x, "a", "")), 3);
        });
    }

    private static void leastSlots() {
        check.edge("else the least one that is in no row of that LIST", x -> {
            int t = Kit.tree(x, "a", "1", "b", "2", "c", "3");
            x.install(t);
            Kit.put(x, t, "b", "two");
            due("one is written", x.install(t), 3);
            due("the least free one", Kit.slots(x), slot(0, "1", true) + " " + slot(1, "2", false) + " "
                + slot(2, "3", true) + " " + slot(3, "two", true));
            Kit.put(x, t, "c", "three");
            x.install(t);
            due("the one that is free again", Kit.slots(x), slot(0, "1", true) + " " + slot(1, "three", true) + " "
                + slot(2, "3", false) + " " + slot(3, "two", true));
        });
        check.edge("and not taken now", x -> {
            int t = Kit.tree(x, "a", "1", "b", "2");
            due("two in one go", x.install(t), 4);
            due("two slots", Kit.slots(x), slot(0, "1", true) + " " + slot(1, "2", true));
            due("of the same content too", x.install(Kit.tree(x, "c", "3", "d", "3", "e", "3")), 5);
            due("three slots more", Kit.slots(x), slot(0, "1", false) + " " + slot(1, "2", false) + " "
                + slot(2, "3", true) + " " + slot(3, "3", true) + " " + slot(4, "3", true));
        });
        check.edge("the least one ..: ten FILES for ten others", x -> {
            int t = tenFiles(x, "x");
            int u = tenFiles(x, "y");
            due("ten", x.install(t), 12);
            due("ten others", x.install(u), 12);
            due("slot 9", x.slot(9, 2), 0);
            due("slot 10", x.slot(10, 2), 1);
            due("slot 19", x.slot(19, 1), Kit.sum("y9"));
            due("slot 20", x.slot(20, 0), PatchChains.NONE);
            due("the first ten again", x.install(t), 12);
            due("slot 0 counts", x.slot(0, 2), 1);
            due("slot 19 does not", x.slot(19, 2), 0);
            due("slot 20 still", x.slot(20, 0), PatchChains.NONE);
            due("they count", x.same(x.open(), t), 1);
        });
        check.edge("the least one ..: ten FILES for ten with other PATHS", x -> {
            x.install(tenFiles(x, ""));
            int u = x.tree(-1);
            for (int i = 0; i < 10; i++) {
                Kit.put(x, u, "n/" + (char) ('a' + i), "");
            }
            due("ten", x.install(u), 12);
            due("slot 19", x.slot(19, 2), 1);
            due("they count", x.same(x.open(), u), 1);
        });
    }

    private static void writings() {
        check.edge("Each is one WRITING", x -> {
            due("no files: the list, the switch", x.install(x.tree(-1)), 2);
            due("one file", x.install(Kit.tree(x, "a", "")), 3);
            due("ten files", x.install(tenFiles(x, "")), 12);
            due("in all", x.count(5), 17);
        });
        check.edge("its FILES in ORDER", x -> {
            x.power(2);
            x.install(Kit.tree(x, "c", "3", "ab", "1", "a/b", "2"));
            due("the first two", Kit.slots(x), slot(0, "2", false) + " " + slot(1, "1", false));
        });
    }

    private static void whereItStops() {
        check.edge("so many WRITINGS more are done; the next one is not, and all is DOWN, as it is then", ignored -> {
            for (int n = 0; n <= 5; n++) {
                PatchChains x = new PatchChains();
                int before = Kit.tree(x, "a", "one", "b", "two");
                int after = Kit.tree(x, "a", "ONE", "b", "two", "c", "three");
                x.install(before);
                x.power(n);
                due(n + ": answer", x.install(after), n < 4 ? PatchChains.DOWN : 4);
                due(n + ": down", x.count(6), n < 4 ? 1 : 0);
                due(n + ": writings", x.count(5), 4 + Math.min(n, 4));
                due(n + ": the first file", x.slot(2, 0), n < 1 ? PatchChains.NONE : 3);
                due(n + ": the second file", x.slot(3, 0), n < 2 ? PatchChains.NONE : 5);
                due(n + ": the switch", x.count(7), n < 4 ? 1 : 0);
                due(n + ": what counts", x.count(4), n < 4 ? 2 : 3);
                due(n + ": wholly or not at all", x.same(x.open(), n < 4 ? before : after), 1);
            }
        });
        check.edge("all is DOWN, as it is then (what was not done is done anew)", x -> {
            int t = Kit.tree(x, "a", "1", "b", "2");
            x.power(3);
            due("the list is written, the switch not", x.install(t), PatchChains.DOWN);
            due("nothing counts", x.count(4), 0);
            x.open();
            due("all four once more", x.install(t), 4);
            due("in the same slots", Kit.slots(x), slot(0, "1", true) + " " + slot(1, "2", true));
            due("seven in all", x.count(5), 7);
        });
    }

    private static void power() {
        check.edge("20: POWER for n (0 .. 40) WRITINGS more", x -> {
            int t = x.tree(-1);
            due("40", x.power(40), 1);
            for (int i = 0; i < 20; i++) {
                due("two of 40", x.install(t), 2);
            }
            due("not down yet", x.count(6), 0);
            due("the 41st", x.install(t), PatchChains.DOWN);
            due("40 in all", x.count(5), 40);
        });
        check.edge("20: n = 0", x -> {
            int t = x.tree(-1);
            due("0", x.power(0), 1);
            due("not down by itself", x.count(6), 0);
            due("the first one", x.install(t), PatchChains.DOWN);
            due("no writing", x.count(5), 0);
        });
        check.edge("20: n = 1", x -> {
            int t = x.tree(-1);
            x.power(1);
            due("the second one", x.install(t), PatchChains.DOWN);
            due("one writing", x.count(5), 1);
            due("the switch stays", x.count(7), 0);
        });
        check.edge("20: n .. more (from then on)", x -> {
            int t = x.tree(-1);
            x.power(3);
            due("two of three", x.install(t), 2);
            due("two more", x.power(2), 1);
            due("not three", x.install(t), 2);
            due("nor five", x.install(t), PatchChains.DOWN);
            due("four", x.count(5), 4);
        });
        check.edge("20: (- 1: for ever)", x -> {
            int t = x.tree(-1);
            x.power(0);
            due("for ever", x.power(-1), 1);
            for (int i = 0; i < 50; i++) {
                due("install", x.install(t), 2);
            }
            due("a hundred", x.count(5), 100);
        });
    }

    private static void powerRefused() {
        check.edge("20: BAD: another number", x -> {
            int t = x.tree(-1);
            x.power(2);
            for (int n : new int[] {-2, 41, 42, -40, Integer.MIN_VALUE, Integer.MAX_VALUE}) {
                check.bad("" + n, x.power(n));
            }
            due("power stays for two", x.install(t), 2);
            due("and no more", x.install(t), PatchChains.DOWN);
        });
        check.edge("20: DOWN: it is", x -> {
            int t = x.tree(-1);
            x.power(0);
            x.install(t);
            for (int n : new int[] {-1, 0, 1, 40}) {
                due("" + n, x.power(n), PatchChains.DOWN);
            }
            check.bad("another number", x.power(41));
            due("still down", x.count(6), 1);
            due("still", x.install(t), PatchChains.DOWN);
            x.open();
            due("not any more", x.power(1), 1);
        });
    }

    private static void install() {
        check.edge("21: BAD: none such", x -> {
            check.bad("none at all", x.install(0));
            x.tree(-1);
            for (int t : Kit.outside(1)) {
                check.bad("" + t, x.install(t));
            }
            due("no writings", x.count(5), 0);
            x.power(0);
            check.bad("no power is asked for", x.install(1));
            due("not down", x.count(6), 0);
            x.install(0);
            check.bad("none such, when it is down", x.install(1));
        });
        check.edge("21: DOWN: it is, ..", x -> {
            int t = Kit.tree(x, "a", "1");
            x.power(0);
            x.install(t);
            due("it is", x.install(t), PatchChains.DOWN);
            due("no writings", x.count(5), 0);
            due("no slot", x.slot(0, 0), PatchChains.NONE);
        });
        check.edge("21: DOWN: .. or comes to be", ignored -> {
            for (int n = 0; n < 12; n++) {
                PatchChains x = new PatchChains();
                int t = tenFiles(x, "");
                x.power(n);
                due("with " + n, x.install(t), PatchChains.DOWN);
                due("writings", x.count(5), n);
                due("down", x.count(6), 1);
            }
        });
        check.edge("21: how many WRITINGS (power for just as many)", x -> {
            int t = tenFiles(x, "");
            x.power(12);
            due("twelve", x.install(t), 12);
            due("not down", x.count(6), 0);
            due("the next one", x.install(t), PatchChains.DOWN);
        });
    }

    private static void open() {
        check.edge("22: What counts on THE DISK is a new TREE", x -> {
            due("nothing", x.open(), 0);
            due("no files", x.file(0, 0, 3), 0);
            int t = tenFiles(x, "content");
            x.install(t);
            due("number", x.open(), 2);
            due("ten files", x.same(2, t), 1);
            Kit.put(x, 2, "m/a", "other");
            due("not the disk itself", x.same(x.open(), t), 1);
            due("the switch stays", x.count(7), 1);
            due("writings stay", x.count(5), 12);
        });
        check.edge("22: POWER is for ever", x -> {
            int t = x.tree(-1);
            x.power(1);
            x.open();
            for (int i = 0; i < 30; i++) {
                due("install", x.install(t), 2);
            }
        });
        check.edge("22: nothing is DOWN any more", x -> {
            int t = x.tree(-1);
            x.power(0);
            x.install(t);
            due("down", x.count(6), 1);
            due("opened", x.open(), 1);
            due("not down", x.count(6), 0);
            due("power", x.power(3), 1);
            due("install", x.install(t), 2);
        });
    }

    private static void openWhenFull() {
        check.edge("22: FULL: 12", x -> {
            for (int t = 0; t < 12; t++) {
                due("number", x.open(), t);
            }
            due("the 13th", x.open(), PatchChains.FULL);
            due("twelve", x.count(0), 12);
        });
        check.edge("22: FULL: .. (nothing changes): DOWN", x -> {
            fillTrees(x);
            x.power(0);
            x.install(0);
            due("full", x.open(), PatchChains.FULL);
            due("down still", x.count(6), 1);
            due("power", x.power(1), PatchChains.DOWN);
        });
        check.edge("22: FULL: .. (nothing changes): POWER", x -> {
            fillTrees(x);
            x.power(1);
            due("full", x.open(), PatchChains.FULL);
            due("power for one still", x.install(0), PatchChains.DOWN);
            due("one writing", x.count(5), 1);
        });
    }

    private static void slot() {
        check.edge("23: bytes of its CONTENT (what 0; NONE: never WRITTEN), its SUM (1; NONE)", x -> {
            String most = Kit.letters('0', 48);
            x.install(Kit.tree(x, "a", "", "b", most));
            due("no bytes", x.slot(0, 0), 0);
            due("the sum of none", x.slot(0, 1), 5381);
            due("48 bytes", x.slot(1, 0), 48);
            due("their sum", x.slot(1, 1), Kit.sum(most));
            due("never", x.slot(2, 0), PatchChains.NONE);
            due("no sum", x.slot(2, 1), PatchChains.NONE);
            due("never, the last", x.slot(29, 0), PatchChains.NONE);
            due("no sum, the last", x.slot(29, 1), PatchChains.NONE);
        });
        check.edge("23: whether it is in the LIST that counts (2)", x -> {
            int t = Kit.tree(x, "a", "1");
            due("never written", x.slot(0, 2), 0);
            due("nor the last", x.slot(29, 2), 0);
            x.power(2);
            x.install(t);
            due("written and listed, but it does not count", x.slot(0, 2), 0);
            x.open();
            x.install(t);
            due("it counts", x.slot(0, 2), 1);
            due("slot 1 does not", x.slot(1, 2), 0);
            x.install(x.tree(-1));
            due("not any more", x.slot(0, 2), 0);
        });
        check.edge("23: BAD: none such", x -> {
            x.install(Kit.tree(x, "a", "1"));
            for (int i : Kit.outside(30)) {
                for (int what = 0; what <= 2; what++) {
                    check.bad("slot " + i + ", " + what, x.slot(i, what));
                }
            }
            for (int what : Kit.outside(3)) {
                check.bad("what " + what, x.slot(0, what));
                check.bad("what " + what + ", never written", x.slot(29, what));
            }
        });
    }

    private static void count() {
        check.edge("24: 0 TREES, 1 PATCHES, 2 bytes of the TAPE, 3 of the PATH at hand, 4 FILES of the LIST", x -> {
            Kit.put(x, x.tree(-1), "abcde/fghij/klmno", "");
            x.install(0);
            fillTrees(x);
            for (int p = 0; p < 8; p++) {
                x.patch(0, 0);
            }
            for (int k = 0; k < 4; k++) {
                x.feed(0, 0, 0, 0, 0);
            }
            int[] most = {12, 8, 80, 17, 1, 3, 0, 1};
            for (int what = 0; what <= 7; what++) {
                due("" + what, x.count(what), most[what]);
            }
        });
        check.edge("24: 4 FILES of the LIST that counts", x -> {
            x.install(tenFiles(x, ""));
            due("ten", x.count(4), 10);
            x.power(1);
            x.install(x.tree(-1));
            due("the other one is written, but does not count", x.count(4), 10);
        });
        check.edge("24: 5 WRITINGS done in all", x -> {
            x.install(Kit.tree(x, "a", "1"));
            x.power(2);
            x.install(Kit.tree(x, "b", "1", "c", "2"));
            due("also those of an INSTALLING that is not whole", x.count(5), 5);
            x.clear();
            x.open();
            due("clear() and open() are none", x.count(5), 5);
        });
        check.edge("24: BAD: another number", x -> {
            for (int what : Kit.outside(8)) {
                check.bad("" + what, x.count(what));
            }
        });
    }
}
