/** Promises 12 to 19: each sentence that names a boundary case, tried by itself on new objects. */
public final class EdgesOfPatchesTest {
    private static final Check check = new Check();
    private static final String TEN = "0123456789";

    public static void main(String[] args) {
        patch();
        stepWhat();
        stepRefused();
        stepByte();
        pieceOfCopy();
        pieceOfInsert();
        pieceRefused();
        apply();
        applyWhenFull();
        conflict();
        conflictOfTheLatest();
        inverse();
        chain();
        chainWhenFull();
        chainOfManySteps();
        check.finish();
    }

    private static void due(String what, Object got, Object want) {
        check.due(what, got, want);
    }

    private static void fillTrees(PatchChains x) {
        while (x.count(0) < 12) {
            x.tree(-1);
        }
    }

    private static int treeOf(PatchChains x, char first, int files) {
        int t = x.tree(-1);
        for (int i = 0; i < files; i++) {
            Kit.put(x, t, first + "/" + (char) ('a' + i), "");
        }
        return t;
    }

    /** Patch 0: ADD a, DROP d, MOVE e/to from e/from, CHANGE f, MOVE and CHANGE yy from x. */
    private static void sample(PatchChains x) {
        int a = Kit.tree(x, "d", "gone", "e/from", TEN, "f", "change", "x", "abc");
        int b = Kit.tree(x, "a", "come!", "e/to", TEN, "f", "changed", "yy", "abcd");
        x.patch(a, b);
    }

    private static void patch() {
        check.edge("12: its number (0 .. 7); FULL: 8", x -> {
            int a = Kit.tree(x, "a", "1");
            int b = Kit.tree(x, "a", "2");
            for (int p = 0; p < 8; p++) {
                due("number", x.patch(a, p % 2 == 0 ? b : a), p);
            }
            due("the ninth", x.patch(a, b), PatchChains.FULL);
            due("eight still", x.count(1), 8);
            due("the last one stays", x.step(7, 0, 9), 0);
            due("the one ahead of it too", Kit.steps(x, 6), "CHANGE a<a ['2'] ['1']");
            x.clear();
            due("then there is room", x.patch(x.tree(-1), 0), 0);
        });
        check.edge("12: BAD: none such", x -> {
            check.bad("none at all", x.patch(0, 0));
            x.tree(-1);
            for (int t : Kit.outside(1)) {
                check.bad("the first, " + t, x.patch(t, 0));
                check.bad("the second, " + t, x.patch(0, t));
                check.bad("both, " + t, x.patch(t, t));
            }
            due("no patch", x.count(1), 0);
        });
        check.edge("12: BAD: none such (when it is FULL too)", x -> {
            x.tree(-1);
            for (int p = 0; p < 8; p++) {
                x.patch(0, 0);
            }
            check.bad("no second", x.patch(0, 1));
        });
        check.edge("12: THE PATCH from TREE a to b (as they are then)", x -> {
            int a = Kit.tree(x, "a", "1");
            int b = Kit.tree(x, "b", "2");
            int p = x.patch(a, b);
            Kit.put(x, a, "a", "other");
            Kit.drop(x, b, "b");
            due("it stays", Kit.steps(x, p), "DROP a<a [] ['1']; ADD b<b ['2'] []");
        });
    }

    private static void stepWhat() {
        check.edge("13: 1, 2 LENGTH, SUM of its SOURCE, 3, 4 of its TARGET (NONE without)", x -> {
            sample(x);
            int none = PatchChains.NONE;
            int[][] dues = {{none, none, 5, Kit.sum("come!")}, {4, Kit.sum("gone"), none, none},
                {10, Kit.sum(TEN), 10, Kit.sum(TEN)}, {6, Kit.sum("change"), 7, Kit.sum("changed")},
                {3, Kit.sum("abc"), 4, Kit.sum("abcd")}};
            for (int i = 0; i < 5; i++) {
                for (int what = 1; what <= 4; what++) {
                    due("step " + i + ", " + what, x.step(0, i, what), dues[i][what - 1]);
                }
            }
        });
        check.edge("13: 0 its sort, 5 bytes of its PATH, 6 of FROM, 7 PIECES of its DELTA, 8 of BACK", x -> {
            sample(x);
            int[][] dues = {{0, 1, 1, 1, 0}, {1, 1, 1, 0, 1}, {3, 4, 6, 1, 1}, {2, 1, 1, 2, 1}, {4, 2, 1, 2, 1}};
            int[] whats = {0, 5, 6, 7, 8};
            for (int i = 0; i < 5; i++) {
                for (int k = 0; k < 5; k++) {
                    due("step " + i + ", " + whats[k], x.step(0, i, whats[k]), dues[i][k]);
                }
            }
        });
        check.edge("13: 9 (whatever i) how many STEPS", x -> {
            sample(x);
            for (int i : new int[] {-2, -1, 0, 4, 5, 24, Integer.MIN_VALUE, Integer.MAX_VALUE}) {
                due("i = " + i, x.step(0, i, 9), 5);
            }
            due("none", x.step(x.patch(0, 0), 0, 9), 0);
            due("none, whatever i", x.step(1, -7, 9), 0);
        });
    }

    private static void stepRefused() {
        check.edge("13: BAD: none such (PATCH)", x -> {
            sample(x);
            for (int p : Kit.outside(1)) {
                for (int what = 0; what <= 9; what++) {
                    check.bad(p + ", " + what, x.step(p, 0, what));
                }
            }
        });
        check.edge("13: BAD: none such (STEP)", x -> {
            sample(x);
            for (int i : Kit.outside(5)) {
                for (int what = 0; what <= 8; what++) {
                    check.bad(i + ", " + what, x.step(0, i, what));
                }
            }
            x.patch(0, 0);
            check.bad("of no steps", x.step(1, 0, 0));
        });
        check.edge("13: BAD: none such (what)", x -> {
            sample(x);
            for (int what : Kit.outside(10)) {
                check.bad("" + what, x.step(0, 0, what));
            }
        });
    }

    private static void stepByte() {
        check.edge("14: Byte k of STEP i's PATH (side 0), FROM (1)", x -> {
            int p = x.patch(Kit.tree(x, "abcde/fghij/klmno", "1", "z", ""), Kit.tree(x, "p", "1"));
            due("first of PATH", x.stepByte(p, 0, 0, 0), (int) 'p');
            due("first of FROM", x.stepByte(p, 0, 1, 0), (int) 'a');
            due("last of FROM", x.stepByte(p, 0, 1, 16), (int) 'o');
            due("FROM of a DROP", x.stepByte(p, 1, 1, 0), (int) 'z');
            int back = x.inverse(p);
            due("FROM of an ADD", x.stepByte(back, 1, 1, 0), (int) 'z');
            due("last of PATH", x.stepByte(back, 0, 0, 16), (int) 'o');
        });
        check.edge("14: BAD: none such (byte)", x -> {
            sample(x);
            for (int k : Kit.outside(4)) {
                check.bad("PATH, " + k, x.stepByte(0, 2, 0, k));
            }
            for (int k : Kit.outside(6)) {
                check.bad("FROM, " + k, x.stepByte(0, 2, 1, k));
            }
            check.bad("FROM is the shorter one", x.stepByte(0, 4, 1, 1));
        });
        check.edge("14: BAD: none such (side, STEP, PATCH)", x -> {
            sample(x);
            for (int side : Kit.outside(2)) {
                check.bad("side " + side, x.stepByte(0, 0, side, 0));
            }
            for (int i : Kit.outside(5)) {
                check.bad("PATH of step " + i, x.stepByte(0, i, 0, 0));
                check.bad("FROM of step " + i, x.stepByte(0, i, 1, 0));
            }
            for (int p : Kit.outside(1)) {
                check.bad("PATH, patch " + p, x.stepByte(p, 0, 0, 0));
                check.bad("FROM, patch " + p, x.stepByte(p, 0, 1, 0));
            }
        });
    }

    private static void pieceOfCopy() {
        check.edge("15: k = - 1: its place in X", x -> {
            int p = x.patch(Kit.tree(x, "f", TEN + Kit.letters('a', 26) + TEN + "!?"), Kit.tree(x, "f", "9!?abc012"));
            due("pieces", Kit.delta(x, p, 0, 0), "[45+3 10+3 0+3]");
            due("the last place but two", x.piece(p, 0, 0, 0, -1), 45);
            due("one between", x.piece(p, 0, 0, 1, -1), 10);
            due("place 0", x.piece(p, 0, 0, 2, -1), 0);
        });
        check.edge("15: - 2: how many bytes", x -> {
            String most = Kit.letters('0', 48);
            int p = x.patch(Kit.tree(x, "a", most), Kit.tree(x, "b", most));
            due("48", x.piece(p, 0, 0, 0, -2), 48);
            int q = x.patch(Kit.tree(x, "a", "1"), Kit.tree(x, "b", "1"));
            due("one", x.piece(q, 0, 1, 0, -2), 1);
        });
        check.edge("15: from 0 on: byte k that an INSERT tells (a COPY: none such)", x -> {
            sample(x);
            for (int k : new int[] {0, 1, 5, 6, Integer.MAX_VALUE}) {
                check.bad("byte " + k, x.piece(0, 3, 0, 0, k));
            }
        });
    }

    private static void pieceOfInsert() {
        check.edge("15: k = - 1: .. (NONE: an INSERT)", x -> {
            sample(x);
            due("of an ADD", x.piece(0, 0, 0, 0, -1), PatchChains.NONE);
            due("of a DROP, back", x.piece(0, 1, 1, 0, -1), PatchChains.NONE);
            due("behind a copy", x.piece(0, 3, 0, 1, -1), PatchChains.NONE);
        });
        check.edge("15: from 0 on: byte k that an INSERT tells", x -> {
            String most = "\u0000" + Kit.letters('0', 46) + "\u00ff";
            int p = x.patch(x.tree(-1), Kit.tree(x, "f", most));
            due("48 bytes", x.piece(p, 0, 0, 0, -2), 48);
            due("the first", x.piece(p, 0, 0, 0, 0), 0);
            due("the second", x.piece(p, 0, 0, 0, 1), (int) '0');
            due("the last", x.piece(p, 0, 0, 0, 47), 255);
            check.bad("behind it", x.piece(p, 0, 0, 0, 48));
            check.bad("far behind it", x.piece(p, 0, 0, 0, Integer.MAX_VALUE));
        });
    }

    private static void pieceRefused() {
        check.edge("15: BAD: none such (k)", x -> {
            sample(x);
            check.bad("- 3 of a copy", x.piece(0, 3, 0, 0, -3));
            check.bad("- 3 of an insert", x.piece(0, 3, 0, 1, -3));
            check.bad("least of a copy", x.piece(0, 3, 0, 0, Integer.MIN_VALUE));
            check.bad("least of an insert", x.piece(0, 3, 0, 1, Integer.MIN_VALUE));
            check.bad("behind an insert of one", x.piece(0, 3, 0, 1, 1));
        });
        check.edge("15: BAD: none such (PIECE)", x -> {
            sample(x);
            for (int k = -2; k <= 0; k++) {
                for (int j : Kit.outside(2)) {
                    check.bad("of two, " + j + ", " + k, x.piece(0, 3, 0, j, k));
                }
                check.bad("delta of a DROP", x.piece(0, 1, 0, 0, k));
                check.bad("back of an ADD", x.piece(0, 0, 1, 0, k));
                check.bad("back of one piece", x.piece(0, 3, 1, 1, k));
            }
        });
        check.edge("15: BAD: none such (side, STEP, PATCH)", x -> {
            sample(x);
            for (int side : Kit.outside(2)) {
                check.bad("side " + side, x.piece(0, 3, side, 0, -2));
            }
            for (int i : Kit.outside(5)) {
                check.bad("step " + i, x.piece(0, i, 0, 0, -2));
                check.bad("step " + i + " back", x.piece(0, i, 1, 0, -2));
            }
            for (int p : Kit.outside(1)) {
                check.bad("patch " + p, x.piece(p, 3, 0, 0, -2));
                check.bad("patch " + p + " back", x.piece(p, 3, 1, 0, -2));
            }
        });
    }

    private static void apply() {
        check.edge("16: the new TREE's number", x -> {
            int t = Kit.tree(x, "a", "1");
            int p = x.patch(t, t);
            for (int number = 1; number < 12; number++) {
                due("number", x.apply(p, t, number % 2 == 0), number);
            }
            due("the last one", Kit.files(x, 11), "a=1");
        });
        check.edge("16: - 10 less the RULE", x -> {
            String[] twins = Kit.twins();
            int p = x.patch(Kit.tree(x, "a", twins[0] + TEN), Kit.tree(x, "b", "Q" + twins[0] + TEN));
            due("1", x.apply(p, x.tree(-1), true), -11);
            due("2", x.apply(p, Kit.tree(x, "a", ""), true), -12);
            due("3", x.apply(p, Kit.tree(x, "a", twins[0] + TEN, "b", ""), true), -13);
            due("4", x.apply(p, Kit.tree(x, "a", twins[1] + TEN), true), -14);
            due("5", x.apply(p, Kit.tree(x, "a", twins[0] + TEN, "b/c", ""), true), -15);
            due("no tree more", x.count(0), 7);
        });
        check.edge("16: (a TREE that is refused is not changed)", x -> {
            int p = x.patch(Kit.tree(x, "a", "1", "b", "2"), Kit.tree(x, "a", "3"));
            int t = Kit.tree(x, "a", "1", "b", "!");
            due("refused", x.apply(p, t, true), -12);
            due("it stays", Kit.files(x, t), "a=1 b=!");
            x.apply(p, t, false);
            due("it stays too", Kit.files(x, t), "a=1 b=!");
        });
        check.edge("16: BAD: none such", x -> {
            check.bad("none at all", x.apply(0, 0, true));
            int t = Kit.tree(x, "a", "1");
            check.bad("no patch", x.apply(0, t, false));
            int p = x.patch(t, t);
            for (int wrong : Kit.outside(1)) {
                check.bad("patch " + wrong, x.apply(wrong, t, true));
                check.bad("tree " + wrong, x.apply(p, wrong, true));
                check.bad("tree " + wrong + ", not strictly", x.apply(p, wrong, false));
            }
            due("one tree", x.count(0), 1);
        });
    }

    private static void applyWhenFull() {
        check.edge("16: FULL: no TREE is free (ahead of RULES)", x -> {
            int a = Kit.tree(x, "a", "1");
            int b = Kit.tree(x, "b", "22");
            int p = x.patch(a, b);
            fillTrees(x);
            due("it would fit", x.apply(p, a, true), PatchChains.FULL);
            due("it would be refused", x.apply(p, b, true), PatchChains.FULL);
            due("nothing would go", x.apply(p, b, false), PatchChains.FULL);
            check.bad("none such", x.apply(1, a, true));
            check.bad("no such tree", x.apply(p, 12, true));
            due("twelve", x.count(0), 12);
        });
    }

    private static void conflict() {
        check.edge("17: the STEP (what 0), its RULE (1); how many (i = - 1, what 0)", x -> {
            int a = treeOf(x, 'a', 10);
            int b = treeOf(x, 'b', 10);
            int none = x.tree(-1);
            int p = x.chain(x.patch(a, b), x.patch(none, treeOf(x, 'c', 4)));
            int t = x.tree(none);
            due("24 steps", x.step(p, 0, 9), 24);
            Kit.put(x, t, "c/a", "");
            due("eleven conflicts", x.apply(p, t, false), -15);
            due("how many", x.conflict(-1, 0), 11);
            due("the first", x.conflict(0, 0), 0);
            due("its rule", x.conflict(0, 1), 1);
            due("the last", x.conflict(10, 0), 20);
            due("the last one's rule", x.conflict(10, 1), 3);
        });
        check.edge("17: how many (as many as a PATCH has STEPS)", x -> {
            int none = x.tree(-1);
            int p = x.patch(treeOf(x, 'a', 10), none);
            int q = x.patch(treeOf(x, 'b', 10), none);
            int r = x.patch(treeOf(x, 'c', 4), none);
            int all = x.chain(x.chain(p, q), r);
            due("24 steps", x.step(all, 0, 9), 24);
            due("none goes", x.apply(all, none, false), 4);
            due("24 conflicts", x.conflict(-1, 0), 24);
            due("the last one", x.conflict(23, 0), 23);
            due("its rule", x.conflict(23, 1), 1);
            check.bad("behind it", x.conflict(24, 0));
            due("as it was", x.same(4, none), 1);
        });
        check.edge("17: BAD: none such", x -> {
            int p = x.patch(Kit.tree(x, "a", "1"), Kit.tree(x, "b", "22"));
            due("two conflicts", x.apply(p, 1, false), 2);
            due("told", Kit.conflicts(x), "0:1 1:3");
            for (int i : new int[] {-2, 2, 3, Integer.MIN_VALUE, Integer.MAX_VALUE}) {
                check.bad("step of " + i, x.conflict(i, 0));
                check.bad("rule of " + i, x.conflict(i, 1));
            }
            for (int what : Kit.outside(2)) {
                check.bad("what " + what, x.conflict(0, what));
                check.bad("how many, what " + what, x.conflict(-1, what));
            }
            check.bad("how many, what 1", x.conflict(-1, 1));
        });
    }

    private static void conflictOfTheLatest() {
        check.edge("17: of the latest apply()", x -> {
            int a = Kit.tree(x, "a", "1");
            int p = x.patch(a, Kit.tree(x, "b", "22"));
            x.apply(p, 1, false);
            due("two", x.conflict(-1, 0), 2);
            x.apply(p, a, false);
            due("none", x.conflict(-1, 0), 0);
            check.bad("no first", x.conflict(0, 0));
            x.apply(p, 1, true);
            due("one", Kit.conflicts(x), "0:1");
        });
        check.edge("17: .. that was not BAD, FULL", x -> {
            int p = x.patch(Kit.tree(x, "a", "1"), Kit.tree(x, "b", "22"));
            x.apply(p, 1, false);
            x.apply(p, 3, true);
            due("behind BAD", Kit.conflicts(x), "0:1 1:3");
            x.apply(1, 0, true);
            due("behind BAD for the patch", Kit.conflicts(x), "0:1 1:3");
            fillTrees(x);
            x.apply(p, 0, true);
            due("behind FULL", Kit.conflicts(x), "0:1 1:3");
        });
        check.edge("17: (STRICTLY the one by which it was refused; ..)", x -> {
            int p = x.patch(Kit.tree(x, "a", "1", "b", "1"), Kit.tree(x, "a", "2", "c", "33"));
            int t = Kit.tree(x, "a", "1", "b", "2", "c", "");
            due("refused", x.apply(p, t, true), -12);
            due("one of two", Kit.conflicts(x), "1:2");
            x.apply(p, t, false);
            due("both", Kit.conflicts(x), "1:2 2:3");
        });
        check.edge("17: (..; RULE 5 is none.)", x -> {
            int p = x.patch(Kit.tree(x, "z", ""), Kit.tree(x, "a", "1"));
            int t = Kit.tree(x, "a/b", "");
            due("strictly another one comes first", x.apply(p, t, true), -11);
            due("that one", Kit.conflicts(x), "1:1");
            due("not strictly 5", x.apply(p, t, false), -15);
            due("only the other one", Kit.conflicts(x), "1:1");
            int u = Kit.tree(x, "a/b", "", "z", "");
            due("strictly 5", x.apply(p, u, true), -15);
            due("none", x.conflict(-1, 0), 0);
        });
    }

    private static void inverse() {
        check.edge("18: its number; BAD", x -> {
            check.bad("none at all", x.inverse(0));
            x.patch(x.tree(-1), 0);
            for (int p : Kit.outside(1)) {
                check.bad("" + p, x.inverse(p));
            }
            due("one still", x.count(1), 1);
            due("number", x.inverse(0), 1);
        });
        check.edge("18: FULL: 8", x -> {
            x.patch(x.tree(-1), 0);
            for (int p = 1; p < 8; p++) {
                due("number", x.inverse(p - 1), p);
            }
            due("the ninth", x.inverse(7), PatchChains.FULL);
            check.bad("none such", x.inverse(8));
            due("eight", x.count(1), 8);
        });
        check.edge("18: (the PATCH itself stays)", x -> {
            int p = x.patch(Kit.tree(x, "a", "1"), Kit.tree(x, "b", "22"));
            int back = x.inverse(p);
            due("there", Kit.steps(x, p), "DROP a<a [] ['1']; ADD b<b ['22'] []");
            due("back", Kit.steps(x, back), "ADD a<a ['1'] []; DROP b<b [] ['22']");
        });
    }

    private static void chain() {
        check.edge("19: BAD", x -> {
            check.bad("none at all", x.chain(0, 0));
            x.patch(x.tree(-1), 0);
            for (int p : Kit.outside(1)) {
                check.bad("the first, " + p, x.chain(p, 0));
                check.bad("the second, " + p, x.chain(0, p));
                check.bad("both, " + p, x.chain(p, p));
            }
            due("one still", x.count(1), 1);
            due("with itself", x.chain(0, 0), 1);
        });
        check.edge("19: - 10 less the RULE", x -> {
            int p = x.patch(Kit.tree(x, "a", "1"), Kit.tree(x, "b", "1"));
            int one = x.patch(0, x.tree(-1));
            int two = x.patch(Kit.tree(x, "b", "2"), x.tree(-1));
            int three = x.patch(x.tree(-1), 1);
            due("1", x.chain(p, one), -11);
            due("2", x.chain(p, two), -12);
            due("3", x.chain(p, three), -13);
            due("no patch more", x.count(1), 4);
        });
        check.edge("19: (both PATCHES stay)", x -> {
            int a = Kit.tree(x, "a", "1");
            int b = Kit.tree(x, "a", "2");
            int p = x.patch(a, b);
            int q = x.patch(b, Kit.tree(x, "a", "3"));
            due("joined", Kit.steps(x, x.chain(p, q)), "CHANGE a<a ['3'] ['1']");
            due("the first", Kit.steps(x, p), "CHANGE a<a ['2'] ['1']");
            due("the second", Kit.steps(x, q), "CHANGE a<a ['3'] ['2']");
        });
    }

    private static void chainWhenFull() {
        check.edge("19: FULL: 8 (ahead of RULES)", x -> {
            int p = x.patch(Kit.tree(x, "a", "1"), Kit.tree(x, "b", "1"));
            int q = x.inverse(p);
            for (int number = 2; number < 8; number++) {
                due("number", x.chain(p, q), number);
            }
            due("the ninth", x.chain(p, q), PatchChains.FULL);
            due("that breaks rule 1", x.chain(p, p), PatchChains.FULL);
            check.bad("none such", x.chain(p, 8));
            due("eight", x.count(1), 8);
        });
    }

    private static void chainOfManySteps() {
        check.edge("19: FULL: .. above 24 STEPS (behind them)", x -> {
            int none = x.tree(-1);
            int twenty = x.patch(treeOf(x, 'a', 10), treeOf(x, 'b', 10));
            int four = x.patch(none, treeOf(x, 'c', 4));
            int five = x.patch(none, treeOf(x, 'd', 5));
            int all = x.chain(twenty, four);
            due("24", x.step(all, 0, 9), 24);
            due("the last one", Kit.step(x, all, 23), "ADD c/d<c/d [] []");
            due("25", x.chain(twenty, five), PatchChains.FULL);
            due("25 the other way", x.chain(five, twenty), PatchChains.FULL);
            due("29", x.chain(all, five), PatchChains.FULL);
            due("no patch more", x.count(1), 4);
            due("44 that break rule 1", x.chain(all, twenty), -11);
            due("28 that break rule 3", x.chain(all, four), -13);
            due("24 are a patch as others", x.step(x.inverse(all), 0, 9), 24);
            due("and back", x.step(x.chain(all, 4), 0, 9), 10);
        });
        check.edge("19: above 24 STEPS (those that are left, not those that come together)", x -> {
            int none = x.tree(-1);
            int a = treeOf(x, 'a', 10);
            int b = treeOf(x, 'b', 10);
            int there = x.patch(a, b);
            int back = x.inverse(there);
            due("twenty and twenty are ten", x.step(x.chain(there, back), 0, 9), 10);
            int ten = x.patch(none, treeOf(x, 'c', 10));
            int gone = x.inverse(ten);
            due("ten and ten are none", x.step(x.chain(ten, gone), 0, 9), 0);
        });
    }
}
