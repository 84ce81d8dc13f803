/** Promises 16 and 17: apply, conflict. */
public final class ApplyTest {
    private static final Check check = new Check();

    public static void main(String[] args) {
        applies();
        rules();
        ruleFour();
        ruleFourOfAdd();
        orderOfRules();
        anewFromTheFirst();
        swaps();
        ruleFive();
        badAndFull();
        conflict();
        check.finish();
    }

    private static void applies() {
        PatchChains x = new PatchChains();
        int a = Kit.tree(x, "a", "abcdef", "b", "two", "c/d", "0123456789", "e", "");
        int b = Kit.tree(x, "a", "abcdefg", "c/e", "0123456789", "d", "", "e", "");
        int p = x.patch(a, b);
        check.due("16: number", x.apply(p, a, true), 2);
        check.due("16: the tree", Kit.files(x, 2), "a=abcdefg c/e=0123456789 d= e=");
        check.due("16: as b", x.same(2, b), 1);
        check.due("17: no conflicts", x.conflict(-1, 0), 0);
        check.due("16: not strictly", x.apply(p, a, false), 3);
        check.due("16: as b too", x.same(3, b), 1);
        check.due("16: a stays", Kit.files(x, a), "a=abcdef b=two c/d=0123456789 e=");
        int more = Kit.tree(x, "a", "abcdef", "b", "two", "c/d", "0123456789", "e", "other", "f", "more");
        check.due("16: another tree that it fits", x.apply(p, more, true), 5);
        check.due("16: with its other files", Kit.files(x, 5), "a=abcdefg c/e=0123456789 d= e=other f=more");
    }

    private static void refused(String what, PatchChains x, int p, int t, int rule, String conflicts) {
        int trees = x.count(0);
        check.due("16: strictly " + what, x.apply(p, t, true), -10 - rule);
        check.due("17: conflict " + what, Kit.conflicts(x), conflicts);
        check.due("16: no tree more " + what, x.count(0), trees);
    }

    private static void rules() {
        PatchChains x = new PatchChains();
        int a = Kit.tree(x, "a", "one", "b", "two", "c", "three!");
        int b = Kit.tree(x, "a", "ONE", "d", "three!", "e", "five");
        int p = x.patch(a, b);
        check.due("16: steps", Kit.steps(x, p), "CHANGE a<a ['ONE'] ['one']; DROP b<b [] ['two']; "
            + "MOVE d<c [0+6] [0+6]; ADD e<e ['five'] []");
        refused("1 of CHANGE", x, p, Kit.tree(x, "b", "two", "c", "three!"), 1, "0:1");
        refused("1 of DROP", x, p, Kit.tree(x, "a", "one", "c", "three!"), 1, "1:1");
        refused("1 of MOVE", x, p, Kit.tree(x, "a", "one", "b", "two"), 1, "2:1");
        refused("2, the sum", x, p, Kit.tree(x, "a", "oNe", "b", "two", "c", "three!"), 2, "0:2");
        refused("2, the length", x, p, Kit.tree(x, "a", "one", "b", "twoo", "c", "three!"), 2, "1:2");
        refused("3 of ADD", x, p, Kit.tree(x, "a", "one", "b", "two", "c", "three!", "e", "five"), 3, "3:3");
        refused("3 of MOVE", x, p, Kit.tree(x, "a", "one", "b", "two", "c", "three!", "d", "x"), 3, "2:3");
        int none = Kit.tree(x, "d", "x", "e", "y");
        x.clear();
        a = Kit.tree(x, "a", "one", "b", "two", "c", "three!");
        b = Kit.tree(x, "a", "ONE", "d", "three!", "e", "five");
        p = x.patch(a, b);
        none = Kit.tree(x, "a", "other", "d", "x", "e", "y");
        check.due("16: not strictly, nothing fits", x.apply(p, none, false), 3);
        check.due("17: all conflicts", Kit.conflicts(x), "0:2 1:1 2:1 3:3");
        check.due("16: as it was", x.same(3, none), 1);
        int some = Kit.tree(x, "a", "one", "b", "too", "d", "x");
        check.due("16: not strictly, some fit", x.apply(p, some, false), 5);
        check.due("17: some conflicts", Kit.conflicts(x), "1:2 2:1");
        check.due("16: what fits is done", Kit.files(x, 5), "a=ONE b=too d=x e=five");
    }

    /** A file with the length and the sum of the source, but not its content. */
    private static void ruleFour() {
        String[] twins = Kit.twins();
        PatchChains x = new PatchChains();
        int a = Kit.tree(x, "a", twins[0] + "0123456789");
        int b = Kit.tree(x, "a", "Q" + twins[0] + "0123456789", "b", "new");
        int shift = x.patch(a, b);
        int other = Kit.tree(x, "a", twins[1] + "0123456789");
        check.due("16: the delta copies", Kit.step(x, shift, 0), "CHANGE a<a ['Q' 0+12] [1+12]");
        check.due("16: the sum is the same", x.file(other, 0, 2), x.file(a, 0, 2));
        String made = "Q" + twins[1] + "0123456789";
        int rule = Kit.sum(made) == x.file(b, 0, 2) ? 0 : 4;
        check.due("16: the sums differ behind Q", rule, 4);
        refused("4", x, shift, other, 4, "0:4");
        check.due("16: not strictly 4", x.apply(shift, other, false), 3);
        check.due("17: 4", Kit.conflicts(x), "0:4");
        check.due("16: the others go", Kit.files(x, 3), "a=" + twins[1] + "0123456789 b=new");
        int c = Kit.tree(x, "a", twins[0] + "0123456789tail");
        int tail = x.patch(a, c);
        check.due("16: what is made has the sum", x.apply(tail, other, true), 5);
        check.due("16: though not the content", Kit.files(x, 5), "a=" + twins[1] + "0123456789tail");
        int dropped = x.patch(a, x.tree(-1));
        check.due("16: DROP makes nothing", x.apply(dropped, other, true), 7);
        check.due("16: and it is gone", Kit.files(x, 7), "");
    }

    /** An ADD that was joined with a CHANGE of another content with the same sum. */
    private static void ruleFourOfAdd() {
        String[] twins = Kit.twins();
        PatchChains x = new PatchChains();
        int none = x.tree(-1);
        int one = Kit.tree(x, "a", twins[0] + "0123456789");
        int two = Kit.tree(x, "a", twins[1] + "0123456789");
        int three = Kit.tree(x, "a", "Q" + twins[1] + "0123456789");
        int joined = x.chain(x.patch(none, one), x.patch(two, three));
        check.due("19: told by both", Kit.steps(x, joined), "ADD a<a ['Q" + twins[0] + "0123456789'] []");
        refused("4 of ADD", x, joined, none, 4, "0:4");
        refused("4 ahead of 3", x, joined, one, 4, "0:4");
    }

    private static void orderOfRules() {
        PatchChains x = new PatchChains();
        int a = Kit.tree(x, "a", "abcdef", "b", "b");
        int b = Kit.tree(x, "m", "abcdef", "b", "c");
        int p = x.patch(a, b);
        check.due("16: steps of order", Kit.steps(x, p), "CHANGE b<b ['c'] ['b']; MOVE m<a [0+6] [0+6]");
        refused("1 ahead of 3", x, p, Kit.tree(x, "b", "b", "m", "x"), 1, "1:1");
        refused("2 ahead of 3", x, p, Kit.tree(x, "a", "x", "b", "b", "m", "x"), 2, "1:2");
        refused("the first step", x, p, Kit.tree(x, "b", "x"), 2, "0:2");
    }

    /** When a step does not go, one ahead of it may not fit any more. */
    private static void anewFromTheFirst() {
        PatchChains x = new PatchChains();
        int a = Kit.tree(x, "a", "aaaaaa", "b", "bbbbbb");
        int b = Kit.tree(x, "c", "aaaaaa");
        int c = Kit.tree(x, "a", "new", "c", "aaaaaa");
        int joined = x.chain(x.patch(a, b), x.patch(b, c));
        check.due("16: ADD of a path that a MOVE leaves", Kit.steps(x, joined),
            "ADD a<a ['new'] []; DROP b<b [] ['bbbbbb']; MOVE c<a [0+6] [0+6]");
        int t = Kit.tree(x, "a", "aaaaaa", "b", "bbbbbb", "c", "in the way");
        check.due("16: anew", x.apply(joined, t, false), 4);
        check.due("17: in the order found", Kit.conflicts(x), "2:3 0:3");
        check.due("16: only DROP is done", Kit.files(x, 4), "a=aaaaaa c=in the way");
        refused("only the first", x, joined, t, 3, "2:3");
    }

    /** Two files that change their paths with one another: each is a source that goes. */
    private static void swaps() {
        PatchChains x = new PatchChains();
        int a = Kit.tree(x, "a", "aaaaaa", "b", "bbbbbb");
        int b = Kit.tree(x, "b", "bbbbbb", "c", "aaaaaa");
        int c = Kit.tree(x, "a", "bbbbbb", "c", "aaaaaa");
        int d = Kit.tree(x, "a", "bbbbbb", "b", "aaaaaa");
        int swap = x.chain(x.chain(x.patch(a, b), x.patch(b, c)), x.patch(c, d));
        check.due("19: swap", Kit.steps(x, swap), "MOVE a<b [0+6] [0+6]; MOVE b<a [0+6] [0+6]");
        check.due("16: swapped", Kit.files(x, x.apply(swap, a, true)), "a=bbbbbb b=aaaaaa");
        int t = Kit.tree(x, "a", "aaaaaa", "b", "other!");
        check.due("16: half a swap is none", Kit.files(x, x.apply(swap, t, false)), "a=aaaaaa b=other!");
        check.due("17: the second has no room then", Kit.conflicts(x), "0:2 1:3");
    }

    private static void ruleFive() {
        PatchChains x = new PatchChains();
        int none = x.tree(-1);
        int one = Kit.tree(x, "a", "1");
        int p = x.patch(none, one);
        int below = Kit.tree(x, "a/b", "2");
        refused("5, a path up to a /", x, p, below, 5, "");
        check.due("16: not strictly 5", x.apply(p, below, false), -15);
        check.due("17: 5 is none", x.conflict(-1, 0), 0);
        int two = Kit.tree(x, "a", "1", "b", "2");
        int q = x.patch(one, two);
        int above = Kit.tree(x, "a", "1", "b/c/d", "2");
        refused("5, the other way", x, q, above, 5, "");
        int full = x.tree(-1);
        for (int i = 0; i < 10; i++) {
            Kit.put(x, full, "m/" + (char) ('a' + i), "");
        }
        refused("5, eleven files", x, p, full, 5, "");
        int dropAndAdd = x.patch(Kit.tree(x, "m/a", ""), one);
        check.due("16: ten again", x.apply(dropAndAdd, full, true), x.count(0) - 1);
        check.due("16: ten files", x.file(x.count(0) - 1, 0, 3), 10);
        int conflictAndFive = x.patch(Kit.tree(x, "z", ""), one);
        check.due("16: conflict and 5", x.apply(conflictAndFive, below, false), -15);
        check.due("17: the conflict counts", Kit.conflicts(x), "1:1");
        check.due("16: strictly the conflict", x.apply(conflictAndFive, below, true), -11);
    }

    private static void badAndFull() {
        PatchChains x = new PatchChains();
        check.due("16: no patch", x.apply(0, 0, true), PatchChains.BAD);
        int a = Kit.tree(x, "a", "1");
        int b = Kit.tree(x, "b", "22");
        int p = x.patch(a, b);
        check.due("16: refused", x.apply(p, b, false), 2);
        check.due("17: two", Kit.conflicts(x), "0:1 1:3");
        int[] wild = {-1, 3, 8, 12, Integer.MIN_VALUE, Integer.MAX_VALUE};
        for (int w : wild) {
            check.due("16: no tree", x.apply(p, w, true), PatchChains.BAD);
            check.due("16: no such patch", x.apply(w, a, false), PatchChains.BAD);
        }
        for (int t = 3; t < 12; t++) {
            x.tree(-1);
        }
        check.due("16: full", x.apply(p, a, true), PatchChains.FULL);
        check.due("16: full ahead of rules", x.apply(p, b, true), PatchChains.FULL);
        check.due("16: BAD ahead of full", x.apply(1, b, true), PatchChains.BAD);
        check.due("17: BAD and FULL leave the conflicts", Kit.conflicts(x), "0:1 1:3");
    }

    private static void conflict() {
        PatchChains x = new PatchChains();
        int a = Kit.tree(x, "a", "1");
        int b = Kit.tree(x, "b", "22");
        int p = x.patch(a, b);
        check.due("17: before any", x.conflict(-1, 0), 0);
        x.apply(p, b, false);
        check.due("17: step 0", x.conflict(0, 0), 0);
        check.due("17: rule 0", x.conflict(0, 1), 1);
        check.due("17: step 1", x.conflict(1, 0), 1);
        check.due("17: rule 1", x.conflict(1, 1), 3);
        check.due("17: how many", x.conflict(-1, 0), 2);
        check.due("17: -1 has no rule", x.conflict(-1, 1), PatchChains.BAD);
        check.due("17: no conflict 2", x.conflict(2, 0), PatchChains.BAD);
        check.due("17: no conflict -2", x.conflict(-2, 0), PatchChains.BAD);
        check.due("17: what 2", x.conflict(0, 2), PatchChains.BAD);
        check.due("17: what -1", x.conflict(0, -1), PatchChains.BAD);
        check.due("17: wild", x.conflict(Integer.MAX_VALUE, 0), PatchChains.BAD);
        check.due("17: wild too", x.conflict(Integer.MIN_VALUE, 1), PatchChains.BAD);
        x.apply(p, a, false);
        check.due("17: the latest has none", x.conflict(-1, 0), 0);
        check.due("17: nor the first", x.conflict(0, 0), PatchChains.BAD);
    }
}
