import java.util.HashMap;
import java.util.Map;

/** "Terms", section 3 (APPLYING, INVERSE, CHAIN): each sentence that names a boundary case, tried by itself. */
public final class EdgesOfRulesTest {
    private static final Check check = new Check();
    private static final String TEN = "0123456789";

    public static void main(String[] args) {
        ruleOne();
        ruleTwo();
        ruleThree();
        ruleFour();
        orderOfRules();
        whatGoes();
        ruleFiveFiles();
        ruleFivePaths();
        inverses();
        chainRuleOne();
        chainRuleTwo();
        chainRuleThree();
        orderOfChainRules();
        chainsOfNothing();
        chainsWithAddAndDrop();
        chainsOfOthers();
        dropsAndAdds();
        joinedDeltas();
        check.finish();
    }

    private static void due(String what, Object got, Object want) {
        check.due(what, got, want);
    }

    private static String[] tree(String... pathsAndContents) {
        return pathsAndContents;
    }

    private static int patch(PatchChains x, String[] a, String[] b) {
        return x.patch(Kit.tree(x, a), Kit.tree(x, b));
    }

    private static String chainOf(String[] a, String[] b, String[] c) {
        PatchChains x = new PatchChains();
        int first = Kit.tree(x, a);
        int second = Kit.tree(x, b);
        int third = Kit.tree(x, c);
        int joined = x.chain(x.patch(first, second), x.patch(second, third));
        due("from the first tree to the third", x.same(x.apply(joined, first, true), third), 1);
        return Kit.steps(x, joined);
    }

    private static void refused(String what, PatchChains x, int p, int t, String conflict) {
        int trees = x.count(0);
        int rule = Character.getNumericValue(conflict.charAt(conflict.length() - 1));
        due(what + ", strictly", x.apply(p, t, true), -10 - rule);
        due(what + ", strictly by", Kit.conflicts(x), conflict);
        due(what + ", no tree more", x.count(0), trees);
        due(what + ", not strictly", x.apply(p, t, false), trees);
        due(what + ", the conflict", Kit.conflicts(x), conflict);
    }

    private static void ruleOne() {
        check.edge("1 its FROM is no FILE of t", x -> {
            int none = x.tree(-1);
            int below = Kit.tree(x, "a/b", "");
            int change = patch(x, tree("a", "1"), tree("a", "2"));
            int drop = patch(x, tree("a", ""), tree());
            int move = patch(x, tree("a", "1"), tree("b", "1"));
            refused("CHANGE", x, change, none, "0:1");
            refused("DROP", x, drop, none, "0:1");
            refused("MOVE", x, move, none, "0:1");
            refused("DROP, only a file below it", x, drop, below, "0:1");
        });
        check.edge("1 its FROM (not its PATH) is no FILE of t", x -> {
            int both = patch(x, tree("a", TEN), tree("b", TEN + "!"));
            refused("MOVE and CHANGE, only its path", x, both, Kit.tree(x, "b", TEN), "0:1");
            due("FROM alone", Kit.files(x, x.apply(both, Kit.tree(x, "a", TEN), true)), "b=" + TEN + "!");
            int add = patch(x, tree(), tree("c", "1"));
            due("ADD has no SOURCE", Kit.files(x, x.apply(add, x.tree(-1), true)), "c=1");
        });
    }

    private static void ruleTwo() {
        check.edge("2 that has not the LENGTH .. of its SOURCE", x -> {
            int drop = patch(x, tree("a", "12"), tree());
            refused("shorter", x, drop, Kit.tree(x, "a", "1"), "0:2");
            refused("longer", x, drop, Kit.tree(x, "a", "123"), "0:2");
            refused("no bytes", x, drop, Kit.tree(x, "a", ""), "0:2");
            int empty = patch(x, tree("b", ""), tree());
            refused("bytes for none", x, empty, Kit.tree(x, "b", "1"), "0:2");
        });
        check.edge("2 that has not the LENGTH .. (though the SUM)", x -> {
            String[] twins = twinsOfOtherLength();
            int drop = patch(x, tree("a", twins[0]), tree());
            refused("another length, the same sum", x, drop, Kit.tree(x, "a", twins[1]), "0:2");
        });
        check.edge("2 that has not the .. SUM of its SOURCE", x -> {
            int change = patch(x, tree("a", "12"), tree("a", "13"));
            refused("another byte", x, change, Kit.tree(x, "a", "22"), "0:2");
            refused("what it makes already", x, change, Kit.tree(x, "a", "13"), "0:2");
            String[] twins = Kit.twins();
            int drop = patch(x, tree("a", twins[0]), tree());
            due("another content with both fits", Kit.files(x, x.apply(drop, Kit.tree(x, "a", twins[1]), true)), "");
        });
    }

    /** Two texts with one sum, of two and of three bytes. */
    private static String[] twinsOfOtherLength() {
        Map<Integer, String> known = new HashMap<>();
        for (int bits = 0; bits < 1 << 16; bits++) {
            String two = "" + (char) (bits >> 8) + (char) (bits & 255);
            known.put(Kit.sum(two), two);
        }
        for (int bits = 0; bits < 1 << 24; bits++) {
            String three = "" + (char) (bits >> 16) + (char) (bits >> 8 & 255) + (char) (bits & 255);
            if (known.containsKey(Kit.sum(three))) {
                return new String[] {known.get(Kit.sum(three)), three};
            }
        }
        throw new IllegalStateException("no twins");
    }

    private static void ruleThree() {
        check.edge("3 its PATH is a FILE of t", x -> {
            int add = patch(x, tree(), tree("a", "1"));
            refused("ADD", x, add, Kit.tree(x, "a", "2"), "0:3");
            refused("ADD of the same", x, add, Kit.tree(x, "a", "1"), "0:3");
            int move = patch(x, tree("a", "1"), tree("b", "1"));
            refused("MOVE", x, move, Kit.tree(x, "a", "1", "b", "1"), "0:3");
        });
        check.edge("3 its PATH (though another CONTENT) is a FILE of t", x -> {
            int both = patch(x, tree("c", TEN), tree("b", TEN + "!"));
            refused("MOVE and CHANGE", x, both, Kit.tree(x, "b", "", "c", TEN), "0:3");
            refused("MOVE and CHANGE to the same", x, both, Kit.tree(x, "b", TEN + "!", "c", TEN), "0:3");
        });
        check.edge("and no SOURCE of a STEP that GOES", x -> {
            int change = patch(x, tree("a", "1"), tree("a", "2"));
            due("its own", Kit.files(x, x.apply(change, Kit.tree(x, "a", "1"), true)), "a=2");
            int a = Kit.tree(x, "a", TEN);
            int b = Kit.tree(x, "b", TEN);
            int c = Kit.tree(x, "a", "new", "b", TEN);
            int later = x.chain(x.patch(a, b), x.patch(b, c));
            due("steps", Kit.steps(x, later), "ADD a<a ['new'] []; MOVE b<a [0+10] [0+10]");
            due("that of a later step", Kit.files(x, x.apply(later, a, true)), "a=new b=" + TEN);
        });
        check.edge("3 ..: SOURCE of a STEP that GOES (not of one that does not)", x -> {
            int a = Kit.tree(x, "a", TEN);
            int b = Kit.tree(x, "b", TEN);
            int c = Kit.tree(x, "a", "new", "b", TEN);
            int later = x.chain(x.patch(a, b), x.patch(b, c));
            due("not strictly", Kit.files(x, x.apply(later, Kit.tree(x, "a", TEN, "b", "!"), false)), "a=" + TEN + " b=!");
            due("the later step goes first", Kit.conflicts(x), "1:3 0:3");
        });
    }

    private static void ruleFour() {
        check.edge("4 what the DELTA makes has not the SUM of its TARGET", x -> {
            String[] twins = Kit.twins();
            int shift = patch(x, tree("a", twins[0] + TEN), tree("a", "Q" + twins[0] + TEN));
            refused("CHANGE", x, shift, Kit.tree(x, "a", twins[1] + TEN), "0:4");
            int tail = patch(x, tree("a", twins[0] + TEN), tree("a", twins[0] + TEN + "Q"));
            int t = x.apply(tail, Kit.tree(x, "a", twins[1] + TEN), true);
            due("another content with the sum fits", Kit.files(x, t), "a=" + twins[1] + TEN + "Q");
        });
        check.edge("4 ..: a MOVE makes what is there", x -> {
            String[] twins = Kit.twins();
            int move = patch(x, tree("a", twins[0]), tree("b", twins[0]));
            int t = x.apply(move, Kit.tree(x, "a", twins[1]), true);
            due("another content with the sum fits", Kit.files(x, t), "b=" + twins[1]);
        });
        check.edge("4 ..: DROP has no TARGET", x -> {
            int drop = patch(x, tree("a", "1"), tree());
            due("it fits", Kit.files(x, x.apply(drop, Kit.tree(x, "a", "1"), true)), "");
            int dropEmpty = patch(x, tree("a", ""), tree());
            due("of no bytes too", Kit.files(x, x.apply(dropEmpty, Kit.tree(x, "a", ""), true)), "");
        });
    }

    private static void orderOfRules() {
        check.edge("(In the order 1, 2, 4, 3.)", x -> {
            String[] twins = Kit.twins();
            int both = patch(x, tree("a", twins[0] + TEN), tree("b", "Q" + twins[0] + TEN));
            refused("1 ahead of 3", x, both, Kit.tree(x, "b", ""), "0:1");
            refused("2 ahead of 3", x, both, Kit.tree(x, "a", "", "b", ""), "0:2");
            refused("2 ahead of 4", x, both, Kit.tree(x, "a", "R" + twins[0] + TEN), "0:2");
            refused("4 ahead of 3", x, both, Kit.tree(x, "a", twins[1] + TEN, "b", ""), "0:4");
        });
    }

    private static void whatGoes() {
        check.edge("The first that does not FIT: STRICTLY: it is refused", x -> {
            int p = patch(x, tree("b", "1", "c", "1"), tree("a", "", "b", "2"));
            int t = Kit.tree(x, "b", "!", "c", "1!");
            due("refused", x.apply(p, t, true), -12);
            due("only the first", Kit.conflicts(x), "1:2");
            due("not the first step, but the first that does not fit", x.conflict(0, 0), 1);
        });
        check.edge("else it does not GO any more", x -> {
            int p = patch(x, tree("b", "1", "c", "1"), tree("a", "", "b", "2"));
            int t = Kit.tree(x, "b", "!", "c", "1!");
            due("all others go", Kit.files(x, x.apply(p, t, false)), "a= b=! c=1!");
            due("all conflicts", Kit.conflicts(x), "1:2 2:2");
        });
        check.edge("else it does not GO any more: none may be left", x -> {
            int p = patch(x, tree("a", "1", "b", "1"), tree("a", "2", "c", ""));
            int t = Kit.tree(x, "c", "!");
            due("as it was", x.same(x.apply(p, t, false), t), 1);
            due("three conflicts", Kit.conflicts(x), "0:1 1:1 2:3");
        });
        check.edge("and anew from the first one on", x -> {
            int a = Kit.tree(x, "a", "aaaaaa", "b", "bbbbbb");
            int b = Kit.tree(x, "c", "aaaaaa");
            int c = Kit.tree(x, "a", "new", "c", "aaaaaa");
            int p = x.chain(x.patch(a, b), x.patch(b, c));
            due("steps", Kit.steps(x, p), "ADD a<a ['new'] []; DROP b<b [] ['bbbbbb']; MOVE c<a [0+6] [0+6]");
            int t = Kit.tree(x, "a", "aaaaaa", "b", "?", "c", "!");
            due("nothing is done", x.same(x.apply(p, t, false), t), 1);
            due("the second, the third, then the first", Kit.conflicts(x), "1:2 2:3 0:3");
        });
        check.edge("A PATCH without STEPS", x -> {
            int t = Kit.tree(x, "a", "1");
            int p = x.patch(t, t);
            due("fits", x.same(x.apply(p, x.tree(-1), true), 1), 1);
            due("no conflicts", x.conflict(-1, 0), 0);
        });
    }

    private static int treeOf(PatchChains x, char first, int files) {
        int t = x.tree(-1);
        for (int i = 0; i < files; i++) {
            Kit.put(x, t, first + "/" + (char) ('a' + i), "");
        }
        return t;
    }

    private static void ruleFiveFiles() {
        check.edge("if that would be none (above 10 FILES; ..): RULE 5", x -> {
            int add = patch(x, tree(), tree("a", "1"));
            int nine = treeOf(x, 'm', 9);
            int ten = treeOf(x, 'n', 10);
            due("ten", x.file(x.apply(add, nine, true), 0, 3), 10);
            int trees = x.count(0);
            due("eleven, strictly", x.apply(add, ten, true), -15);
            due("is no conflict", x.conflict(-1, 0), 0);
            due("eleven, not strictly", x.apply(add, ten, false), -15);
            due("is none then either", x.conflict(-1, 0), 0);
            due("no tree more", x.count(0), trees);
        });
        check.edge("t's FILES without the SOURCES of STEPS that GO, and their TARGETS", x -> {
            int ten = treeOf(x, 'm', 10);
            int swap = patch(x, tree("m/b", ""), tree("z", ""));
            due("one goes, one comes", x.file(x.apply(swap, ten, true), 0, 3), 10);
            int moves = patch(x, tree("m/c", ""), tree("m/c", "1"));
            due("one is changed", x.file(x.apply(moves, ten, true), 0, 3), 10);
            int two = patch(x, tree("m/c", "other"), tree("z", ""));
            due("the one does not go, the other comes: eleven", x.apply(two, ten, false), -15);
            due("the conflict is told", Kit.conflicts(x), "0:2");
            due("strictly it is the conflict", x.apply(two, ten, true), -12);
        });
    }

    private static void ruleFivePaths() {
        check.edge("if that would be none (..; a PATH up to a / ): RULE 5", x -> {
            int add = patch(x, tree(), tree("a/b", "1"));
            due("above", x.apply(add, Kit.tree(x, "a", ""), true), -15);
            due("below", x.apply(add, Kit.tree(x, "a/b/c", ""), false), -15);
            due("beside", x.apply(add, Kit.tree(x, "a/bc", "", "ab", ""), true), 5);
            int move = patch(x, tree("c", "1"), tree("d", "1"));
            due("of a MOVE", x.apply(move, Kit.tree(x, "c", "1", "d/e/f", ""), true), -15);
            due("no conflict", x.conflict(-1, 0), 0);
        });
        check.edge("RULE 5: a FILE that goes is not in the way", x -> {
            int a = Kit.tree(x, "a", "1");
            int b = Kit.tree(x, "a/b", "1");
            due("a to a/b", Kit.files(x, x.apply(x.patch(a, b), a, true)), "a/b=1");
            due("a/b to a", Kit.files(x, x.apply(x.patch(b, a), b, true)), "a=1");
        });
    }

    private static void inverses() {
        check.edge("INVERSE: of ADD DROP, of DROP ADD", x -> {
            int p = patch(x, tree("b", "12"), tree("a", "3"));
            int back = x.inverse(p);
            due("there", Kit.steps(x, p), "ADD a<a ['3'] []; DROP b<b [] ['12']");
            due("back", Kit.steps(x, back), "DROP a<a [] ['3']; ADD b<b ['12'] []");
            due("source of DROP", x.step(back, 0, 1), 1);
            due("target of DROP", x.step(back, 0, 3), PatchChains.NONE);
            due("its sum", x.step(back, 0, 4), PatchChains.NONE);
            due("source of ADD", x.step(back, 1, 1), PatchChains.NONE);
            due("its sum too", x.step(back, 1, 2), PatchChains.NONE);
            due("target of ADD", x.step(back, 1, 3), 2);
        });
        check.edge("else PATH and FROM, LENGTHS, SUMS, both DELTAS are changed with one another", x -> {
            int p = patch(x, tree("b", TEN, "c", "12"), tree("a", TEN + "!", "c", ""));
            int back = x.inverse(p);
            due("steps", Kit.steps(x, back), "MOVE+CHANGE b<a [0+10] [0+10 '!']; CHANGE c<c ['12'] []");
            due("source", x.step(back, 0, 1), 11);
            due("its sum", x.step(back, 0, 2), Kit.sum(TEN + "!"));
            due("target", x.step(back, 0, 3), 10);
            due("sum of that", x.step(back, 0, 4), Kit.sum(TEN));
        });
        check.edge("INVERSE of 48 bytes", x -> {
            String most = Kit.letters('0', 48);
            int p = patch(x, tree("a", most), tree("a", "!"));
            due("told", Kit.steps(x, x.inverse(p)), "CHANGE a<a ['" + most + "'] ['!']");
            int q = patch(x, tree("a", most), tree("b", most));
            due("copied", Kit.steps(x, x.inverse(q)), "MOVE a<b [0+48] [0+48]");
        });
        check.edge("INVERSE of a PATCH without STEPS", x -> due("none", x.step(x.inverse(x.patch(x.tree(-1), 0)), 0, 9), 0));
    }

    private static void chainRuleOne() {
        check.edge("1, if its SOURCE is no TARGET in p, but a SOURCE there", x -> {
            int drop = patch(x, tree("a", TEN), tree());
            int move = patch(x, tree("a", TEN), tree("b", TEN));
            int change = patch(x, tree("a", TEN), tree("a", "!"));
            due("dropped and dropped", x.chain(drop, drop), -11);
            due("dropped and changed", x.chain(drop, change), -11);
            due("moved away and changed", x.chain(move, change), -11);
            due("moved away twice", x.chain(move, move), -11);
            due("no patch more", x.count(1), 3);
        });
        check.edge("1, if its SOURCE is no TARGET in p (or one)", x -> {
            int change = patch(x, tree("a", "1"), tree("a", "2"));
            int again = patch(x, tree("a", "2"), tree("a", "3"));
            int other = patch(x, tree("c", "1"), tree());
            due("a TARGET too", Kit.steps(x, x.chain(change, again)), "CHANGE a<a ['3'] ['1']");
            due("neither of them", Kit.steps(x, x.chain(change, other)), "CHANGE a<a ['2'] ['1']; DROP c<c [] ['1']");
        });
    }

    private static void chainRuleTwo() {
        check.edge("2, if it is a TARGET in p that has not its LENGTH, SUM", x -> {
            int add = patch(x, tree(), tree("a", "12"));
            due("the length", x.chain(add, patch(x, tree("a", "1"), tree())), -12);
            due("the sum", x.chain(add, patch(x, tree("a", "13"), tree())), -12);
            due("both as they should be", x.chain(add, patch(x, tree("a", "12"), tree())), 4);
        });
        check.edge("2, .. LENGTH (though the SUM)", x -> {
            String[] twins = twinsOfOtherLength();
            int add = patch(x, tree(), tree("a", twins[0]));
            due("another length, the same sum", x.chain(add, patch(x, tree("a", twins[1]), tree())), -12);
        });
        check.edge("2, .. LENGTH, SUM (though not the CONTENT)", x -> {
            String[] twins = Kit.twins();
            int add = patch(x, tree(), tree("a", twins[0]));
            due("another content with both", x.chain(add, patch(x, tree("a", twins[1]), tree())), 2);
        });
    }

    private static void chainRuleThree() {
        check.edge("3, if its TARGET is one in p, too, and no SOURCE in q", x -> {
            int add = patch(x, tree(), tree("a", "1"));
            int change = patch(x, tree("b", "1"), tree("b", "2"));
            due("ADD and ADD", x.chain(add, add), -13);
            due("ADD and MOVE", x.chain(add, patch(x, tree("c", "1"), tree("a", "1"))), -13);
            due("CHANGE and ADD", x.chain(change, patch(x, tree(), tree("b", "1"))), -13);
            due("MOVE and ADD", x.chain(patch(x, tree("c", "2"), tree("a", "2")), add), -13);
            due("no patch more", x.count(1), 5);
        });
        check.edge("3, .. and no SOURCE in q (or one)", x -> {
            int a = Kit.tree(x, "a", TEN);
            int b = Kit.tree(x, "b", TEN);
            int c = Kit.tree(x, "a", "new", "b", TEN);
            int leaves = x.chain(x.patch(a, b), x.patch(b, c));
            int add = patch(x, tree(), tree("a", TEN));
            due("a later step takes it away", Kit.steps(x, x.chain(add, leaves)),
                "ADD a<a ['new'] []; ADD b<b ['" + TEN + "'] []");
        });
    }

    private static void orderOfChainRules() {
        check.edge("(The first STEP of q, 1, 2, 3.)", x -> {
            int p = patch(x, tree("b", "bbbb", "d", "d"), tree("a", "1", "c", "bbbb"));
            due("steps", Kit.steps(x, p), "ADD a<a ['1'] []; MOVE c<b [0+4] [0+4]; DROP d<d [] ['d']");
            due("the first step breaks 3, the second 1", x.chain(p, patch(x, tree("b", ""), tree("a", ""))), -13);
            due("1 ahead of 3", x.chain(p, patch(x, tree("b", "x"), tree("a", "x"))), -11);
            due("2 ahead of 3", x.chain(p, patch(x, tree("c", "xx"), tree("a", "xx"))), -12);
            due("the first step breaks 2, the second 1", x.chain(p, patch(x, tree("a", "", "b", ""), tree())), -12);
        });
    }

    private static void chainsOfNothing() {
        check.edge("ADD and DROP: nothing", x -> due("steps", chainOf(tree(), tree("a", TEN), tree()), ""));
        check.edge("nothing, if these are one and the DELTA is WHOLE", x -> {
            due("CHANGE and back", chainOf(tree("a", TEN), tree("a", TEN + "!"), tree("a", TEN)), "");
            due("MOVE and back", chainOf(tree("a", "1"), tree("b", "1"), tree("a", "1")), "");
            due("MOVE and CHANGE and back", chainOf(tree("a", TEN), tree("b", "!" + TEN), tree("a", TEN)), "");
            due("no bytes", chainOf(tree("a", ""), tree("a", "1"), tree("a", "")), "");
        });
        check.edge("nothing, if .. the DELTA is WHOLE (not if the CONTENT is the same)", x -> {
            due("told", chainOf(tree("a", "12"), tree("a", "3"), tree("a", "12")), "CHANGE a<a ['12'] ['12']");
            due("one byte is told", chainOf(tree("a", TEN + "!"), tree("a", TEN), tree("a", TEN + "!")),
                "CHANGE a<a [0+10 '!'] [0+10 '!']");
        });
        check.edge("CHAIN of PATCHES without STEPS", x -> {
            int none = x.patch(x.tree(-1), 0);
            int some = patch(x, tree("a", "1"), tree("a", "2"));
            due("both", x.step(x.chain(none, none), 0, 9), 0);
            due("the first", Kit.steps(x, x.chain(none, some)), "CHANGE a<a ['2'] ['1']");
            due("the second", Kit.steps(x, x.chain(some, none)), "CHANGE a<a ['2'] ['1']");
        });
        check.edge("CHAIN of PATCHES without STEPS (of which nothing was left)", x -> {
            int there = patch(x, tree("a", TEN), tree("a", TEN + "!"));
            int nothing = x.chain(there, x.inverse(there));
            due("nothing", x.step(nothing, 0, 9), 0);
            int drop = patch(x, tree("a", "1"), tree());
            due("no SOURCE, no TARGET is in the first", Kit.steps(x, x.chain(nothing, drop)), "DROP a<a [] ['1']");
            due("nor in the second", Kit.steps(x, x.chain(drop, nothing)), "DROP a<a [] ['1']");
            int add = patch(x, tree(), tree("a", "2"));
            due("no TARGET", Kit.steps(x, x.chain(nothing, add)), "ADD a<a ['2'] []");
        });
    }

    private static void chainsWithAddAndDrop() {
        check.edge("ADD and another: ADD", x -> {
            due("CHANGE", chainOf(tree(), tree("a", TEN), tree("a", TEN + "x")), "ADD a<a ['0123456789x'] []");
            due("MOVE", chainOf(tree(), tree("a", TEN), tree("b", TEN)), "ADD b<b ['0123456789'] []");
            due("both", chainOf(tree(), tree("a", TEN), tree("b", "x" + TEN)), "ADD b<b ['x0123456789'] []");
            due("CHANGE to no bytes", chainOf(tree(), tree("a", TEN), tree("a", "")), "ADD a<a [] []");
        });
        check.edge("another and DROP: DROP of the first one's FROM", x -> {
            due("CHANGE", chainOf(tree("a", TEN), tree("a", TEN + "x"), tree()), "DROP a<a [] ['0123456789']");
            due("MOVE", chainOf(tree("a", TEN), tree("b", TEN), tree()), "DROP a<a [] ['0123456789']");
            due("both", chainOf(tree("a", TEN), tree("b", TEN + "x"), tree()), "DROP a<a [] ['0123456789']");
            due("CHANGE from no bytes", chainOf(tree("a", ""), tree("a", TEN), tree()), "DROP a<a [] []");
        });
    }

    private static void chainsOfOthers() {
        check.edge("CHANGE, if they are one", x -> {
            due("CHANGE and CHANGE", chainOf(tree("a", TEN), tree("a", TEN + "x"), tree("a", "y" + TEN + "x")),
                "CHANGE a<a ['y' 0+10 'x'] [1+10]");
            due("there and back", chainOf(tree("a", TEN), tree("b", TEN + "x"), tree("a", TEN + "xy")),
                "CHANGE a<a [0+10 'xy'] [0+10]");
            due("all but the last byte", chainOf(tree("a", TEN), tree("a", TEN + "x"), tree("a", "012345678")),
                "CHANGE a<a [0+9] [0+9 '9']");
            due("all but the first byte", chainOf(tree("a", TEN), tree("a", TEN + "x"), tree("a", "123456789")),
                "CHANGE a<a [1+9] ['0' 0+9]");
        });
        check.edge("MOVE, if it is WHOLE", x -> {
            due("MOVE and MOVE", chainOf(tree("a", TEN), tree("b", TEN), tree("c", TEN)), "MOVE c<a [0+10] [0+10]");
            due("both and both", chainOf(tree("a", TEN), tree("b", TEN + "x"), tree("c", TEN)), "MOVE c<a [0+10] [0+10]");
        });
        check.edge("else MOVE and CHANGE", x -> {
            due("MOVE and CHANGE", chainOf(tree("a", TEN), tree("b", TEN), tree("b", TEN + "x")),
                "MOVE+CHANGE b<a [0+10 'x'] [0+10]");
            due("CHANGE and MOVE", chainOf(tree("a", TEN), tree("a", TEN + "x"), tree("c", TEN + "x")),
                "MOVE+CHANGE c<a [0+10 'x'] [0+10]");
            due("all but the last byte", chainOf(tree("a", TEN), tree("b", TEN), tree("c", "012345678")),
                "MOVE+CHANGE c<a [0+9] [0+9 '9']");
        });
        check.edge("All others stay", x -> {
            due("of both", chainOf(tree("a", "1", "c", TEN, "e", "e"), tree("a", "2", "d", TEN, "e", "e"),
                tree("a", "2", "b", "3", "d", TEN)),
                "CHANGE a<a ['2'] ['1']; ADD b<b ['3'] []; MOVE d<c [0+10] [0+10]; DROP e<e [] ['e']");
        });
    }

    private static void dropsAndAdds() {
        check.edge("DROP in p and ADD in q of one PATH: CHANGE", x -> {
            due("two contents", chainOf(tree("a", "one"), tree(), tree("a", "three")), "CHANGE a<a ['three'] ['one']");
            due("the same", chainOf(tree("a", "same"), tree(), tree("a", "same")), "CHANGE a<a ['same'] ['same']");
            due("no bytes", chainOf(tree("a", ""), tree(), tree("a", "")), "CHANGE a<a [] []");
            due("of two paths", chainOf(tree("a", "one"), tree(), tree("b", "three")),
                "DROP a<a [] ['one']; ADD b<b ['three'] []");
        });
        check.edge("(the DELTA of ADD, BACK that of DROP)", x -> {
            int drop = patch(x, tree("a", "0123"), tree());
            int add = patch(x, tree(), tree("a", "01234"));
            int p = x.chain(drop, add);
            due("though copies would be cheaper", Kit.steps(x, p), "CHANGE a<a ['01234'] ['0123']");
            due("length of the source", x.step(p, 0, 1), 4);
            due("its sum", x.step(p, 0, 2), Kit.sum("0123"));
            due("length of the target", x.step(p, 0, 3), 5);
            due("sum of that", x.step(p, 0, 4), Kit.sum("01234"));
        });
    }

    private static void joinedDeltas() {
        check.edge("bytes that are side by side in X one behind the other are one COPY", x -> {
            due("what stood between is gone", chainOf(tree("a", "abcdef"), tree("a", "abc-def"), tree("a", "abcdef!")),
                "CHANGE a<a [0+6 '!'] [0+6]");
            due("one byte of X", chainOf(tree("a", "abcdef"), tree("a", "abcdefXYZ"), tree("a", "fXYZ")),
                "CHANGE a<a [5+1 'XYZ'] ['abcde' 0+1]");
            due("not side by side", chainOf(tree("a", "abc-defgh"), tree("a", "defgh-abc"), tree("a", "gh-abc!!")),
                "CHANGE a<a [7+2 '-' 0+3 '!!'] [3+3 '-def' 0+2]");
            due("place 0 alone", chainOf(tree("a", "abcdef"), tree("a", "defabc"), tree("a", "efa!!")),
                "CHANGE a<a [4+2 0+1 '!!'] [2+1 'bcd' 0+2]");
            due("the same bytes twice", chainOf(tree("a", "abc"), tree("a", "abc!"), tree("a", "abc!abc!")),
                "CHANGE a<a [0+3 '!' 0+3 '!'] [0+3]");
        });
        check.edge("those told one INSERT", x -> {
            due("by both", chainOf(tree("a", "abcdef"), tree("a", "XabcdefY"), tree("a", "12XabcdefYZ")),
                "CHANGE a<a ['12X' 0+6 'YZ'] [3+6]");
            due("by the first alone", chainOf(tree("a", ""), tree("a", "XYZ"), tree("a", "XYZXYZ")),
                "CHANGE a<a ['XYZXYZ'] []");
            due("though X has them", chainOf(tree("a", "abcdef"), tree("a", "ab"), tree("a", "abcdef")),
                "CHANGE a<a ['abcdef'] ['abcdef']");
        });
        check.edge("each byte of Z is told, or is a byte of X at a place, by both (byte 0, place 0)", x -> {
            due("byte 0 told by the first", chainOf(tree("a", "abc"), tree("a", "\u0000abc"), tree("a", "\u0000abc?")),
                "CHANGE a<a ['\u0000' 0+3 '?'] [1+3]");
            due("by the second", chainOf(tree("a", "abc"), tree("a", "abc?"), tree("a", "\u0000abc?")),
                "CHANGE a<a ['\u0000' 0+3 '?'] [1+3]");
            due("by both", chainOf(tree("a", "abc"), tree("a", "abc\u0000"), tree("a", "abc\u0000\u0000")),
                "CHANGE a<a [0+3 '\u0000\u0000'] [0+3]");
        });
        check.edge("DELTAS JOINED of 48 bytes", x -> {
            String most = Kit.letters('0', 48);
            due("and back to them", chainOf(tree("a", most), tree("b", most), tree("c", most.substring(1) + "!")),
                "MOVE+CHANGE c<a [1+47 '!'] ['0' 0+47]");
        });
    }
}
