/** Promises 12 to 15: patch, step, stepByte, piece. */
public final class PatchTest {
    private static final Check check = new Check();
    private static final int[] WILD = {-3, Integer.MIN_VALUE, Integer.MAX_VALUE, 24, 48, 100};

    public static void main(String[] args) {
        sorts();
        movesOfTheSame();
        movesOfTheLike();
        mostLikeFirst();
        deltas();
        manySteps();
        numbers();
        step();
        stepByte();
        piece();
        check.finish();
    }

    private static String patchOf(String[] a, String[] b) {
        PatchChains x = new PatchChains();
        int p = x.patch(Kit.tree(x, a), Kit.tree(x, b));
        return Kit.steps(x, p);
    }

    private static String[] tree(String... pathsAndContents) {
        return pathsAndContents;
    }

    private static void sorts() {
        check.due("12: nothing", patchOf(tree("a", "1", "b", ""), tree("b", "", "a", "1")), "");
        check.due("12: ADD", patchOf(tree(), tree("a/b", "xy")), "ADD a/b<a/b ['xy'] []");
        check.due("12: DROP", patchOf(tree("a/b", "xy"), tree()), "DROP a/b<a/b [] ['xy']");
        check.due("12: ADD of no bytes", patchOf(tree(), tree("a", "")), "ADD a<a [] []");
        check.due("12: DROP of no bytes", patchOf(tree("a", ""), tree()), "DROP a<a [] []");
        check.due("12: CHANGE", patchOf(tree("a", "abcdef"), tree("a", "abcdefg")),
            "CHANGE a<a [0+6 'g'] [0+6]");
        check.due("12: MOVE", patchOf(tree("a", "abcdef"), tree("b", "abcdef")), "MOVE b<a [0+6] [0+6]");
        check.due("12: MOVE is WHOLE, whatever it costs", patchOf(tree("a", "x"), tree("b", "x")),
            "MOVE b<a [0+1] [0+1]");
        check.due("12: MOVE and CHANGE", patchOf(tree("a", "abcdef"), tree("b", "abcdefg")),
            "MOVE+CHANGE b<a [0+6 'g'] [0+6]");
        check.due("12: in order of path",
            patchOf(tree("b", "1", "d", "4444"), tree("a", "2", "b", "3", "c", "4444")),
            "ADD a<a ['2'] []; CHANGE b<b ['3'] ['1']; MOVE c<d [0+4] [0+4]");
        check.due("12: / is ahead of letters",
            patchOf(tree(), tree("ab", "1", "a/z", "2", "a/b/c", "3", "a/ba", "4")),
            "ADD a/b/c<a/b/c ['3'] []; ADD a/ba<a/ba ['4'] []; ADD a/z<a/z ['2'] []; ADD ab<ab ['1'] []");
    }

    private static void movesOfTheSame() {
        check.due("12: no bytes do not move", patchOf(tree("a", ""), tree("b", "")),
            "DROP a<a [] []; ADD b<b [] []");
        check.due("12: the first NEW takes the first GONE",
            patchOf(tree("c", "same", "d", "same"), tree("a", "same", "b", "same")),
            "MOVE a<c [0+4] [0+4]; MOVE b<d [0+4] [0+4]");
        check.due("12: one is taken once",
            patchOf(tree("c", "same"), tree("a", "same", "b", "same")),
            "MOVE a<c [0+4] [0+4]; ADD b<b ['same'] []");
        check.due("12: one that stays does not move",
            patchOf(tree("c", "same"), tree("a", "same", "c", "same")), "ADD a<a ['same'] []");
        check.due("12: one that is changed does not move",
            patchOf(tree("c", "same"), tree("a", "same", "c", "x")),
            "ADD a<a ['same'] []; CHANGE c<c ['x'] ['same']");
        check.due("12: the same is ahead of the like",
            patchOf(tree("c", "0123456789x", "d", "0123456789"), tree("a", "0123456789x!", "b", "0123456789x")),
            "MOVE+CHANGE a<d [0+10 'x!'] [0+10]; MOVE b<c [0+11] [0+11]");
        String[] twins = Kit.twins();
        check.due("12: the same sum is not the same content",
            patchOf(tree("c", twins[0]), tree("a", twins[1])),
            "ADD a<a ['" + twins[1] + "'] []; DROP c<c [] ['" + twins[0] + "']");
    }

    private static void movesOfTheLike() {
        // 6 bytes of both in one order, 20 together: 600
        check.due("12: 600", patchOf(tree("a", "a1b2c3d4ef"), tree("b", "abcdefWXYZ")),
            "MOVE+CHANGE b<a ['abcdefWXYZ'] ['a1b2c3d4ef']");
        // 5 bytes of both in one order, 20 together: 500
        check.due("12: 500", patchOf(tree("a", "a1b2c3d4e5"), tree("b", "abcdeVWXYZ")),
            "DROP a<a [] ['a1b2c3d4e5']; ADD b<b ['abcdeVWXYZ'] []");
        // the same bytes, but not in one order: 5 of 20
        check.due("12: not in one order", patchOf(tree("a", "abcdefghij"), tree("b", "fghijabcde")),
            "DROP a<a [] ['abcdefghij']; ADD b<b ['fghijabcde'] []");
        // 3 of 10 together: 600; 3 of 11 together: 545
        check.due("12: 3 and 7", patchOf(tree("a", "abc"), tree("b", "-a-b-c-")),
            "MOVE+CHANGE b<a ['-a-b-c-'] ['abc']");
        check.due("12: 3 and 8", patchOf(tree("a", "abc"), tree("b", "-a-b-c--")),
            "DROP a<a [] ['abc']; ADD b<b ['-a-b-c--'] []");
        check.due("12: nothing like no bytes", patchOf(tree("a", ""), tree("b", "x")),
            "DROP a<a [] []; ADD b<b ['x'] []");
    }

    private static void mostLikeFirst() {
        // n is 700 like the first, m 900: m takes it, and n takes what is left
        check.due("12: the most like two",
            patchOf(tree("c", "0123456789", "d", "0123456xyz"), tree("m", "0123456abc", "n", "012345678!")),
            "MOVE+CHANGE m<d [0+7 'abc'] [0+7 'xyz']; MOVE+CHANGE n<c [0+9 '!'] [0+9 '9']");
        check.due("12: of like ones the first NEW",
            patchOf(tree("g", "0123456789"), tree("m", "012345678a", "n", "012345678b")),
            "MOVE+CHANGE m<g [0+9 'a'] [0+9 '9']; ADD n<n ['012345678b'] []");
        check.due("12: of like ones the first GONE",
            patchOf(tree("g", "012345678a", "h", "012345678b"), tree("m", "0123456789")),
            "DROP h<h [] ['012345678b']; MOVE+CHANGE m<g [0+9 '9'] [0+9 'a']");
        check.due("12: what is left below 600 does not move",
            patchOf(tree("g", "0123456789", "h", "abcdefghij"), tree("m", "012345678z", "n", "01234XXXXX")),
            "DROP h<h [] ['abcdefghij']; MOVE+CHANGE m<g [0+9 'z'] [0+9 '9']; ADD n<n ['01234XXXXX'] []");
        // 2000 * 21 / 64 is 656.2, 2000 * 22 / 67 is 656.7: whole, both are 656
        String gone = "abcdefghijklmnopqrstuvwxyz0123456789ABCD";
        String first = gone.substring(0, 21) + "!!!";
        String second = gone.substring(0, 22) + "!!!!!";
        check.due("12: like is a whole number", patchOf(tree("g", gone), tree("m", first, "n", second)),
            "MOVE+CHANGE m<g [0+21 '!!!'] [0+21 '" + gone.substring(21) + "']; ADD n<n ['" + second + "'] []");
    }

    private static String deltaOf(String from, String to) {
        PatchChains x = new PatchChains();
        int p = x.patch(Kit.tree(x, "f", from), Kit.tree(x, "f", to));
        String delta = Kit.delta(x, p, 0, 0);
        PatchChains y = new PatchChains();
        int q = y.patch(Kit.tree(y, "f", to), Kit.tree(y, "f", from));
        check.due("15: back of the one there is the one back", Kit.delta(y, q, 0, 1), delta);
        return delta;
    }

    private static void deltas() {
        check.due("15: two bytes are told", deltaOf("ab-", "ab"), "['ab']");
        check.due("15: three are copied", deltaOf("abc-", "abc"), "[0+3]");
        check.due("15: from no bytes", deltaOf("", "abcabcabc"), "['abcabcabc']");
        check.due("15: to no bytes", deltaOf("abc", ""), "[]");
        check.due("15: the least place", deltaOf("x-abc-abc-", "abc"), "[2+3]");
        check.due("15: the least place of just these bytes", deltaOf("abcx-abcd", "abc!"), "[0+3 '!']");
        check.due("15: the longest one from a later place", deltaOf("abcx-abcd", "abcd"), "[5+4]");
        check.due("15: a copy rather than a byte", deltaOf("abcd-bcde", "abcde"), "[0+4 'e']");
        check.due("15: a byte, where that is cheaper", deltaOf("abc-bcdefgh", "abcdefgh"), "['a' 4+7]");
        check.due("15: the longest first", deltaOf("abcde-defgh", "abcdefgh"), "[0+5 8+3]");
        check.due("15: copies overlap in X", deltaOf("abcabc", "abcabcabcabcab"), "[0+6 0+6 'ab']");
        check.due("15: told ones are one", deltaOf("abcdef", "ababefxyef"), "['ababefxyef']");
        check.due("15: told between copies", deltaOf("abcdef", "abcXdef"), "[0+3 'X' 3+3]");
        check.due("15: a copy of two between copies is told", deltaOf("abc-de-fgh", "abcdefgh"), "[0+3 'de' 7+3]");
        check.due("15: byte 0 told ahead of place 0", deltaOf("abcdef", "\u0000abcdef"), "['\u0000' 0+6]");
        check.due("15: bytes 254, 255", deltaOf("\u00fe\u00ff\u00fe", "\u00ff\u00fe\u00ff\u00fe"), "['\u00ff' 0+3]");
        String most = "aaaaaaaaaaaaaaaaaaaaaaaaaaaaaaaaaaaaaaaaaaaaaaaa";
        check.due("15: 48 of 7", deltaOf("aaaaaaa", most), "[0+7 0+7 0+7 0+7 0+7 0+7 0+6]");
        check.due("15: 47 of 48", deltaOf(most, most.substring(1)), "[0+47]");
    }

    private static void manySteps() {
        PatchChains x = new PatchChains();
        int a = x.tree(-1);
        int b = x.tree(-1);
        StringBuilder due = new StringBuilder();
        for (int i = 0; i < 10; i++) {
            Kit.put(x, a, "" + (char) ('a' + 2 * i), "");
            Kit.put(x, b, "" + (char) ('b' + 2 * i), "");
        }
        for (int i = 0; i < 10; i++) {
            char gone = (char) ('a' + 2 * i);
            char come = (char) ('b' + 2 * i);
            due.append(i > 0 ? "; " : "").append("DROP " + gone + "<" + gone + " [] []; ");
            due.append("ADD " + come + "<" + come + " [] []");
        }
        check.due("12: twenty steps", Kit.steps(x, x.patch(a, b)), due.toString());
    }

    private static void numbers() {
        PatchChains x = new PatchChains();
        check.due("12: no trees", x.patch(0, 0), PatchChains.BAD);
        int t = Kit.tree(x, "a", "1");
        int u = Kit.tree(x, "a", "2");
        check.due("12: no second", x.patch(t, 2), PatchChains.BAD);
        check.due("12: no first", x.patch(-1, u), PatchChains.BAD);
        for (int p = 0; p < 8; p++) {
            check.due("12: number", x.patch(t, u), p);
        }
        check.due("12: full", x.patch(t, u), PatchChains.FULL);
        check.due("12: BAD ahead of FULL", x.patch(t, 2), PatchChains.BAD);
        Kit.put(x, t, "a", "other");
        check.due("12: a patch stays when its trees are changed", Kit.steps(x, 7), "CHANGE a<a ['2'] ['1']");
        for (int wild : WILD) {
            check.due("12: wild", x.patch(wild, t), PatchChains.BAD);
            check.due("12: wild behind", x.patch(t, wild), PatchChains.BAD);
        }
    }

    private static PatchChains sample() {
        PatchChains x = new PatchChains();
        int a = Kit.tree(x, "d", "gone", "e/from", "0123456789", "f", "change", "x", "abc");
        int b = Kit.tree(x, "a", "come!", "e/to", "0123456789", "f", "changed", "yy", "abcd");
        x.patch(a, b);
        return x;
    }

    private static void step() {
        PatchChains x = sample();
        check.due("13: steps", Kit.steps(x, 0), "ADD a<a ['come!'] []; DROP d<d [] ['gone']; "
            + "MOVE e/to<e/from [0+10] [0+10]; CHANGE f<f [0+6 'd'] [0+6]; MOVE+CHANGE yy<x [0+3 'd'] [0+3]");
        String[] sources = {null, "gone", "0123456789", "change", "abc"};
        String[] targets = {"come!", null, "0123456789", "changed", "abcd"};
        int[] sorts = {0, 1, 3, 2, 4};
        int[] paths = {1, 1, 4, 1, 2};
        int[] froms = {1, 1, 6, 1, 1};
        int[] deltas = {1, 0, 1, 2, 2};
        int[] backs = {0, 1, 1, 1, 1};
        for (int i = 0; i < 5; i++) {
            boolean from = sources[i] != null;
            boolean to = targets[i] != null;
            check.due("13: sort", x.step(0, i, 0), sorts[i]);
            check.due("13: source length", x.step(0, i, 1), from ? sources[i].length() : PatchChains.NONE);
            check.due("13: source sum", x.step(0, i, 2), from ? Kit.sum(sources[i]) : PatchChains.NONE);
            check.due("13: target length", x.step(0, i, 3), to ? targets[i].length() : PatchChains.NONE);
            check.due("13: target sum", x.step(0, i, 4), to ? Kit.sum(targets[i]) : PatchChains.NONE);
            check.due("13: path", x.step(0, i, 5), paths[i]);
            check.due("13: from", x.step(0, i, 6), froms[i]);
            check.due("13: pieces", x.step(0, i, 7), deltas[i]);
            check.due("13: pieces back", x.step(0, i, 8), backs[i]);
        }
        for (int i : new int[] {-1, 0, 5, Integer.MAX_VALUE, Integer.MIN_VALUE}) {
            check.due("13: how many, whatever i", x.step(0, i, 9), 5);
        }
        for (int what = 0; what <= 8; what++) {
            check.due("13: no step 5", x.step(0, 5, what), PatchChains.BAD);
            check.due("13: no step -1", x.step(0, -1, what), PatchChains.BAD);
            check.due("13: no patch 1", x.step(1, 0, what), PatchChains.BAD);
        }
        for (int wild : WILD) {
            check.due("13: wild patch", x.step(wild, 0, 9), PatchChains.BAD);
            check.due("13: wild step", x.step(0, wild, 0), PatchChains.BAD);
            check.due("13: wild what", x.step(0, 0, wild), PatchChains.BAD);
        }
        check.due("13: what -1", x.step(0, 0, -1), PatchChains.BAD);
        check.due("13: what 10", x.step(0, 0, 10), PatchChains.BAD);
        check.due("13: patch -1", x.step(-1, 0, 9), PatchChains.BAD);
    }

    private static void stepByte() {
        PatchChains x = sample();
        check.due("14: path", x.stepByte(0, 2, 0, 3), (int) 'o');
        check.due("14: from", x.stepByte(0, 2, 1, 3), (int) 'r');
        check.due("14: from of ADD is its path", x.stepByte(0, 0, 1, 0), (int) 'a');
        check.due("14: from of DROP is its path", x.stepByte(0, 1, 1, 0), (int) 'd');
        check.due("14: behind the path", x.stepByte(0, 2, 0, 4), PatchChains.BAD);
        check.due("14: behind from", x.stepByte(0, 2, 1, 6), PatchChains.BAD);
        check.due("14: byte -1", x.stepByte(0, 2, 0, -1), PatchChains.BAD);
        check.due("14: side 2", x.stepByte(0, 2, 2, 0), PatchChains.BAD);
        check.due("14: side -1", x.stepByte(0, 2, -1, 0), PatchChains.BAD);
        check.due("14: step 5", x.stepByte(0, 5, 0, 0), PatchChains.BAD);
        check.due("14: step -1", x.stepByte(0, -1, 0, 0), PatchChains.BAD);
        check.due("14: patch 1", x.stepByte(1, 0, 0, 0), PatchChains.BAD);
        check.due("14: patch -1", x.stepByte(-1, 0, 0, 0), PatchChains.BAD);
        for (int wild : WILD) {
            check.due("14: wild patch", x.stepByte(wild, 0, 0, 0), PatchChains.BAD);
            check.due("14: wild step", x.stepByte(0, wild, 0, 0), PatchChains.BAD);
            check.due("14: wild side", x.stepByte(0, 0, wild, 0), PatchChains.BAD);
            check.due("14: wild byte", x.stepByte(0, 0, 0, wild), PatchChains.BAD);
        }
    }

    private static void piece() {
        PatchChains x = sample();
        check.due("15: place of a copy", x.piece(0, 3, 0, 0, -1), 0);
        check.due("15: bytes of a copy", x.piece(0, 3, 0, 0, -2), 6);
        check.due("15: a copy tells none", x.piece(0, 3, 0, 0, 0), PatchChains.BAD);
        check.due("15: place of an insert", x.piece(0, 3, 0, 1, -1), PatchChains.NONE);
        check.due("15: bytes of an insert", x.piece(0, 3, 0, 1, -2), 1);
        check.due("15: byte of an insert", x.piece(0, 3, 0, 1, 0), (int) 'd');
        check.due("15: behind the insert", x.piece(0, 3, 0, 1, 1), PatchChains.BAD);
        check.due("15: no piece 2", x.piece(0, 3, 0, 2, -2), PatchChains.BAD);
        check.due("15: no piece -1", x.piece(0, 3, 0, -1, -2), PatchChains.BAD);
        check.due("15: back", x.piece(0, 1, 1, 0, 3), (int) 'e');
        check.due("15: DROP makes nothing", x.piece(0, 1, 0, 0, -2), PatchChains.BAD);
        check.due("15: k -3", x.piece(0, 3, 0, 0, -3), PatchChains.BAD);
        check.due("15: k -3 of an insert", x.piece(0, 3, 0, 1, -3), PatchChains.BAD);
        check.due("15: side 2", x.piece(0, 3, 2, 0, -1), PatchChains.BAD);
        check.due("15: side -1", x.piece(0, 3, -1, 0, -1), PatchChains.BAD);
        check.due("15: no step 5", x.piece(0, 5, 0, 0, -1), PatchChains.BAD);
        check.due("15: no step -1", x.piece(0, -1, 0, 0, -1), PatchChains.BAD);
        check.due("15: no patch 1", x.piece(1, 0, 0, 0, -1), PatchChains.BAD);
        for (int wild : WILD) {
            check.due("15: wild patch", x.piece(wild, 3, 0, 0, -1), PatchChains.BAD);
            check.due("15: wild step", x.piece(0, wild, 0, 0, -1), PatchChains.BAD);
            check.due("15: wild side", x.piece(0, 3, wild, 0, -1), PatchChains.BAD);
            check.due("15: wild piece", x.piece(0, 3, 0, wild, -1), PatchChains.BAD);
            check.due("15: wild byte", x.piece(0, 3, 0, 1, wild), PatchChains.BAD);
        }
    }
}
