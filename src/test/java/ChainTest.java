/** Promises 18 and 19: inverse, chain. */
public final class ChainTest {
    private static final Check check = new Check();

    public static void main(String[] args) {
        inverse();
        inverseOrder();
        inverseNumbers();
        rules();
        joined();
        dropsAndAdds();
        othersStay();
        wholeOfNoBytes();
        joinedDeltas();
        numbers();
        tooManySteps();
        check.finish();
    }

    private static void inverse() {
        PatchChains x = new PatchChains();
        int a = Kit.tree(x, "a", "gone", "c", "abc", "m", "0123456789", "n", "abcdef");
        int b = Kit.tree(x, "b", "come!", "c", "abcd", "mm", "0123456789", "nn", "abcdefg");
        int p = x.patch(a, b);
        check.due("18: there", Kit.steps(x, p), "DROP a<a [] ['gone']; ADD b<b ['come!'] []; "
            + "CHANGE c<c [0+3 'd'] [0+3]; MOVE mm<m [0+10] [0+10]; MOVE+CHANGE nn<n [0+6 'g'] [0+6]");
        int back = x.inverse(p);
        check.due("18: number", back, 1);
        check.due("18: back", Kit.steps(x, back), "ADD a<a ['gone'] []; DROP b<b [] ['come!']; "
            + "CHANGE c<c [0+3] [0+3 'd']; MOVE m<mm [0+10] [0+10]; MOVE+CHANGE n<nn [0+6] [0+6 'g']");
        String[] sources = {null, "come!", "abcd", "0123456789", "abcdefg"};
        String[] targets = {"gone", null, "abc", "0123456789", "abcdef"};
        for (int i = 0; i < 5; i++) {
            String s = sources[i];
            String t = targets[i];
            check.due("18: source length", x.step(back, i, 1), s == null ? PatchChains.NONE : s.length());
            check.due("18: source sum", x.step(back, i, 2), s == null ? PatchChains.NONE : Kit.sum(s));
            check.due("18: target length", x.step(back, i, 3), t == null ? PatchChains.NONE : t.length());
            check.due("18: target sum", x.step(back, i, 4), t == null ? PatchChains.NONE : Kit.sum(t));
        }
        check.due("18: b to a", x.same(x.apply(back, b, true), a), 1);
        check.due("18: twice", Kit.steps(x, x.inverse(back)), Kit.steps(x, p));
    }

    /** The steps of an inverse are in order of their own paths. */
    private static void inverseOrder() {
        PatchChains x = new PatchChains();
        int a = Kit.tree(x, "c", "111111", "d", "222222", "e", "333333");
        int b = Kit.tree(x, "x", "333333", "y", "222222", "z", "111111");
        int p = x.patch(a, b);
        check.due("18: by x, y, z", Kit.steps(x, p),
            "MOVE x<e [0+6] [0+6]; MOVE y<d [0+6] [0+6]; MOVE z<c [0+6] [0+6]");
        check.due("18: by c, d, e", Kit.steps(x, x.inverse(p)),
            "MOVE c<z [0+6] [0+6]; MOVE d<y [0+6] [0+6]; MOVE e<x [0+6] [0+6]");
    }

    private static void inverseNumbers() {
        PatchChains x = new PatchChains();
        check.due("18: none", x.inverse(0), PatchChains.BAD);
        int t = x.tree(-1);
        x.patch(t, t);
        for (int p = 1; p < 8; p++) {
            check.due("18: number " + p, x.inverse(p - 1), p);
        }
        check.due("18: full", x.inverse(0), PatchChains.FULL);
        for (int wild : new int[] {-1, 8, Integer.MIN_VALUE, Integer.MAX_VALUE}) {
            check.due("18: wild", x.inverse(wild), PatchChains.BAD);
        }
    }

    private static int patch(PatchChains x, String[] a, String[] b) {
        return x.patch(Kit.tree(x, a), Kit.tree(x, b));
    }

    private static String[] tree(String... pathsAndContents) {
        return pathsAndContents;
    }

    private static void rules() {
        PatchChains x = new PatchChains();
        int move = patch(x, tree("a", "aaaa"), tree("b", "aaaa"));
        int change = patch(x, tree("a", "aaaa"), tree("a", "abba"));
        int changeB = patch(x, tree("b", "abba"), tree("b", "x"));
        int addB = patch(x, tree(), tree("b", "new"));
        int addA = patch(x, tree(), tree("a", "new"));
        check.due("19: 1", x.chain(move, change), -11);
        check.due("19: 2, the sum", x.chain(move, changeB), -12);
        check.due("19: 3 of ADD", x.chain(move, addB), -13);
        check.due("19: no rule", x.chain(move, addA), 5);
        check.due("19: steps", Kit.steps(x, 5), "ADD a<a ['new'] []; MOVE b<a [0+4] [0+4]");
        x.clear();
        move = patch(x, tree("a", "aaaa"), tree("b", "aaaa"));
        int longer = patch(x, tree("b", "aaaaa"), tree());
        int moveToB = patch(x, tree("c", "cccc"), tree("b", "cccc"));
        int firstThree = patch(x, tree("a", "aaaa", "b", "aaaa"), tree("b", "abba"));
        int twoSteps = patch(x, tree("a", "aaaa"), tree("b", "bbbb"));
        check.due("19: 2, the length", x.chain(move, longer), -12);
        check.due("19: 3 of MOVE", x.chain(move, moveToB), -13);
        check.due("19: steps of two", Kit.steps(x, firstThree), "DROP a<a [] ['aaaa']; CHANGE b<b ['abba'] ['aaaa']");
        check.due("19: the first step of q", x.chain(move, firstThree), -11);
        check.due("19: steps of others", Kit.steps(x, twoSteps), "DROP a<a [] ['aaaa']; ADD b<b ['bbbb'] []");
        check.due("19: the first step, not the first rule", x.chain(move, twoSteps), -11);
        check.due("19: no patch was made", x.count(1), 5);
    }

    private static String chainOf(String[] a, String[] b, String[] c) {
        PatchChains x = new PatchChains();
        int first = Kit.tree(x, a);
        int second = Kit.tree(x, b);
        int third = Kit.tree(x, c);
        int joined = x.chain(x.patch(first, second), x.patch(second, third));
        check.due("19: number", joined, 2);
        check.due("19: a to c", x.same(x.apply(joined, first, true), third), 1);
        int back = x.inverse(joined);
        check.due("19: and back", x.same(x.apply(back, third, true), first), 1);
        checkLengths(x, joined, first, third);
        return Kit.steps(x, joined);
    }

    private static void checkLengths(PatchChains x, int p, int a, int c) {
        for (int i = 0; i < x.step(p, 0, 9); i++) {
            int source = x.step(p, i, 0) == 0 ? -1 : fileOf(x, a, Kit.stepPath(x, p, i, 1));
            int target = x.step(p, i, 0) == 1 ? -1 : fileOf(x, c, Kit.stepPath(x, p, i, 0));
            check.due("19: source length", x.step(p, i, 1), source < 0 ? PatchChains.NONE : x.file(a, source, 1));
            check.due("19: source sum", x.step(p, i, 2), source < 0 ? PatchChains.NONE : x.file(a, source, 2));
            check.due("19: target length", x.step(p, i, 3), target < 0 ? PatchChains.NONE : x.file(c, target, 1));
            check.due("19: target sum", x.step(p, i, 4), target < 0 ? PatchChains.NONE : x.file(c, target, 2));
        }
    }

    private static int fileOf(PatchChains x, int t, String path) {
        String[] files = Kit.files(x, t).split(" ");
        for (int i = 0; i < files.length; i++) {
            if (files[i].startsWith(path + "=")) {
                return i;
            }
        }
        return -1;
    }

    private static void joined() {
        String d = "0123456789";
        check.due("19: ADD and DROP", chainOf(tree(), tree("a", d), tree()), "");
        check.due("19: ADD and CHANGE", chainOf(tree(), tree("a", d), tree("a", d + "x")),
            "ADD a<a ['0123456789x'] []");
        check.due("19: ADD and MOVE", chainOf(tree(), tree("a", d), tree("b", d)), "ADD b<b ['0123456789'] []");
        check.due("19: ADD and both", chainOf(tree(), tree("a", d), tree("b", "x" + d)),
            "ADD b<b ['x0123456789'] []");
        check.due("19: CHANGE and DROP", chainOf(tree("a", d), tree("a", d + "x"), tree()),
            "DROP a<a [] ['0123456789']");
        check.due("19: MOVE and DROP", chainOf(tree("a", d), tree("b", d), tree()), "DROP a<a [] ['0123456789']");
        check.due("19: both and DROP", chainOf(tree("a", d), tree("b", d + "x"), tree()),
            "DROP a<a [] ['0123456789']");
        check.due("19: CHANGE and CHANGE", chainOf(tree("a", d), tree("a", d + "x"), tree("a", "y" + d + "x")),
            "CHANGE a<a ['y' 0+10 'x'] [1+10]");
        check.due("19: CHANGE and back", chainOf(tree("a", d), tree("a", d + "x"), tree("a", d)), "");
        check.due("19: CHANGE and back, told", chainOf(tree("a", d + "x"), tree("a", d), tree("a", d + "x")),
            "CHANGE a<a [0+10 'x'] [0+10 'x']");
        check.due("19: MOVE and MOVE", chainOf(tree("a", d), tree("b", d), tree("c", d)), "MOVE c<a [0+10] [0+10]");
        check.due("19: MOVE and back", chainOf(tree("a", d), tree("b", d), tree("a", d)), "");
        check.due("19: MOVE and CHANGE", chainOf(tree("a", d), tree("b", d), tree("b", d + "x")),
            "MOVE+CHANGE b<a [0+10 'x'] [0+10]");
        check.due("19: CHANGE and MOVE", chainOf(tree("a", d), tree("a", d + "x"), tree("c", d + "x")),
            "MOVE+CHANGE c<a [0+10 'x'] [0+10]");
        check.due("19: both and both, WHOLE", chainOf(tree("a", d), tree("b", d + "x"), tree("c", d)),
            "MOVE c<a [0+10] [0+10]");
        check.due("19: both and both, back, not WHOLE", chainOf(tree("a", d), tree("b", d + "x"), tree("a", d + "xy")),
            "CHANGE a<a [0+10 'xy'] [0+10]");
        check.due("19: all copied, but not all of X", chainOf(tree("a", d), tree("a", d + "x"), tree("a", "012345678")),
            "CHANGE a<a [0+9] [0+9 '9']");
    }

    private static void dropsAndAdds() {
        check.due("19: DROP and ADD", chainOf(tree("a", "one"), tree(), tree("a", "two")),
            "CHANGE a<a ['two'] ['one']");
        check.due("19: DROP and ADD of the same", chainOf(tree("a", "same"), tree(), tree("a", "same")),
            "CHANGE a<a ['same'] ['same']");
        check.due("19: DROP and ADD of no bytes", chainOf(tree("a", ""), tree(), tree("a", "")), "CHANGE a<a [] []");
        check.due("19: DROP and MOVE to it stay both",
            chainOf(tree("a", "one", "b", "0123456789"), tree("b", "0123456789"), tree("a", "0123456789")),
            "DROP a<a [] ['one']; MOVE a<b [0+10] [0+10]");
        check.due("19: DROP in p and what becomes ADD stay both",
            chainOf(tree("b", "one"), tree("a", "0123456789"), tree("b", "0123456789")),
            "DROP b<b [] ['one']; ADD b<b ['0123456789'] []");
        check.due("19: what becomes DROP and ADD in q stay both",
            chainOf(tree("b", "0123456789"), tree("a", "0123456789"), tree("b", "one")),
            "DROP b<b [] ['0123456789']; ADD b<b ['one'] []");
        check.due("19: the DROP first, though it is found last",
            chainOf(tree("a", "one!", "b", "0123456789"), tree("c", "0123456789x", "x", "one!"),
                tree("a", "0123456789x")),
            "DROP a<a [] ['one!']; MOVE+CHANGE a<b [0+10 'x'] [0+10]");
        check.due("19: MOVE away and ADD",
            chainOf(tree("b", "0123456789"), tree("a", "0123456789"), tree("a", "0123456789", "b", "one")),
            "MOVE a<b [0+10] [0+10]; ADD b<b ['one'] []");
    }

    private static void othersStay() {
        check.due("19: all others stay",
            chainOf(tree("a", "1", "c", "0123456789", "e", "e"), tree("a", "2", "d", "0123456789", "e", "e"),
                tree("a", "2", "b", "3", "d", "0123456789")),
            "CHANGE a<a ['2'] ['1']; ADD b<b ['3'] []; MOVE d<c [0+10] [0+10]; DROP e<e [] ['e']");
    }

    /** A WHOLE delta of no bytes has no pieces; but not every one without pieces is WHOLE. */
    private static void wholeOfNoBytes() {
        check.due("19: no bytes and back", chainOf(tree("a", ""), tree("a", "xyz"), tree("a", "")), "");
        check.due("19: bytes to none", chainOf(tree("a", "xyz"), tree("a", "x"), tree("a", "")),
            "CHANGE a<a [] ['xyz']");
        PatchChains x = new PatchChains();
        int a = Kit.tree(x, "a", "");
        int b = Kit.tree(x, "a", "0123");
        int c = Kit.tree(x, "b", "0123");
        int d = Kit.tree(x, "b", "");
        int joined = x.chain(x.chain(x.patch(a, b), x.patch(b, c)), x.patch(c, d));
        check.due("19: MOVE of no bytes", Kit.steps(x, joined), "MOVE b<a [] []");
        check.due("19: applied", x.same(x.apply(joined, a, true), d), 1);
    }

    private static void joinedDeltas() {
        check.due("19: copies that come side by side are one",
            chainOf(tree("a", "abcdef"), tree("a", "abc-def"), tree("a", "abcdef!")),
            "CHANGE a<a [0+6 '!'] [0+6]");
        check.due("19: told by both are one INSERT",
            chainOf(tree("a", "abcdef"), tree("a", "XabcdefY"), tree("a", "12XabcdefYZ")),
            "CHANGE a<a ['12X' 0+6 'YZ'] [3+6]");
        check.due("19: told though X has them",
            chainOf(tree("a", "abcdef"), tree("a", "ab"), tree("a", "abcdef")),
            "CHANGE a<a ['abcdef'] ['abcdef']");
        check.due("19: a copy of one byte of X",
            chainOf(tree("a", "abcdef"), tree("a", "abcdefXYZ"), tree("a", "fXYZ")),
            "CHANGE a<a [5+1 'XYZ'] ['abcde' 0+1]");
        check.due("19: not side by side in X",
            chainOf(tree("a", "abc-defgh"), tree("a", "defgh-abc"), tree("a", "gh-abc!!")),
            "CHANGE a<a [7+2 '-' 0+3 '!!'] [3+3 '-def' 0+2]");
    }

    private static void numbers() {
        PatchChains x = new PatchChains();
        check.due("19: none", x.chain(0, 0), PatchChains.BAD);
        int a = Kit.tree(x, "a", "1");
        int b = Kit.tree(x, "b", "22");
        x.patch(a, b);
        check.due("19: no second", x.chain(0, 1), PatchChains.BAD);
        check.due("19: no first", x.chain(-1, 0), PatchChains.BAD);
        check.due("19: rule 1 with itself", x.chain(0, 0), -11);
        x.inverse(0);
        for (int p = 2; p < 8; p++) {
            check.due("19: number", x.chain(0, 1), p);
        }
        check.due("19: ADD then DROP is nothing; DROP then ADD is CHANGE", Kit.steps(x, 2), "CHANGE a<a ['1'] ['1']");
        check.due("19: full", x.chain(0, 1), PatchChains.FULL);
        check.due("19: full ahead of rules", x.chain(0, 0), PatchChains.FULL);
        check.due("19: BAD ahead of full", x.chain(0, 8), PatchChains.BAD);
        for (int wild : new int[] {Integer.MIN_VALUE, Integer.MAX_VALUE, -1, 8}) {
            check.due("19: wild", x.chain(wild, 0), PatchChains.BAD);
            check.due("19: wild behind", x.chain(0, wild), PatchChains.BAD);
        }
    }

    private static int treeOf(PatchChains x, char first, int files) {
        int t = x.tree(-1);
        for (int i = 0; i < files; i++) {
            Kit.put(x, t, first + "/" + (char) ('a' + i), "");
        }
        return t;
    }

    private static void tooManySteps() {
        PatchChains x = new PatchChains();
        int none = x.tree(-1);
        int p = x.patch(treeOf(x, 'a', 10), treeOf(x, 'b', 10));
        int four = x.patch(none, treeOf(x, 'c', 4));
        int five = x.patch(none, treeOf(x, 'd', 5));
        check.due("19: 24 steps", x.chain(p, four), 3);
        check.due("19: all 24", x.step(3, 0, 9), 24);
        check.due("19: 25 steps", x.chain(p, five), PatchChains.FULL);
        check.due("19: 25 steps the other way", x.chain(five, p), PatchChains.FULL);
        check.due("19: no patch more", x.count(1), 4);
        check.due("19: rules ahead of 25 steps", x.chain(3, p), -11);
        check.due("19: 24 back", x.inverse(3), 4);
        check.due("19: all 24 back", x.step(4, 0, 9), 24);
        check.due("19: there and back", x.chain(3, 4), 5);
        check.due("19: ten DROPS and ADDS", x.step(5, 0, 9), 10);
    }
}
