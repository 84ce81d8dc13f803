/** "Terms", sections 1 and 2: each sentence that names a boundary case, tried by itself on new objects. */
public final class EdgesOfTermsTest {
    private static final Check check = new Check();
    private static final String FORTY_EIGHT = Kit.letters('0', 48);

    public static void main(String[] args) {
        namesOfPaths();
        lettersOfPaths();
        filesOfTrees();
        pathsInTheWay();
        orderOfPaths();
        sums();
        costOfDeltas();
        likeWaysOfDeltas();
        deltasOfNoBytes();
        wholeDeltas();
        sidesOfSteps();
        orderOfSteps();
        changes();
        movesOfTheSame();
        leastLike();
        likeOnes();
        likeIsWhole();
        others();
        check.finish();
    }

    private static void due(String what, Object got, Object want) {
        check.due(what, got, want);
    }

    private static String[] tree(String... pathsAndContents) {
        return pathsAndContents;
    }

    private static String patchOf(String[] a, String[] b) {
        PatchChains x = new PatchChains();
        return Kit.steps(x, x.patch(Kit.tree(x, a), Kit.tree(x, b)));
    }

    /** The delta from one content to the other. */
    private static String delta(String from, String to) {
        PatchChains x = new PatchChains();
        return Kit.delta(x, x.patch(Kit.tree(x, "f", from), Kit.tree(x, "f", to)), 0, 0);
    }

    private static void namesOfPaths() {
        check.edge("A PATH: 1 .. 3 names", x -> {
            check.bad("no name", Kit.path(x, ""));
            due("one", Kit.path(x, "a"), 1);
            due("two", Kit.path(x, "a/b"), 2);
            due("three", Kit.path(x, "a/b/c"), 3);
            check.bad("four", Kit.path(x, "a/b/c/d"));
            check.bad("five", Kit.path(x, "a/b/c/d/e"));
            due("the longest one", Kit.path(x, "abcde/fghij/klmno"), 3);
            due("its bytes", x.count(3), 17);
        });
        check.edge("with / between", x -> {
            for (String path : tree("/", "//", "/a", "a/", "a/b/", "/a/b", "a/b/c/", "/a/b/c", "a//b", "a//", "//a")) {
                check.bad("'" + path + "'", Kit.path(x, path));
            }
            for (String path : tree("a.b", "a\\b", "a b", "a:b", "a\u0000b", "a|b")) {
                check.bad("'" + path + "'", Kit.path(x, path));
            }
        });
    }

    private static void lettersOfPaths() {
        check.edge("of 1 .. 5 letters", x -> {
            for (String path : tree("v", "vwxyz", "a/v", "a/vwxyz", "a/b/v", "a/b/vwxyz", "abcde/b", "abcde/b/vwxyz")) {
                due("'" + path + "'", Kit.path(x, path), path.split("/").length);
            }
            for (String path : tree("uvwxyz", "a/uvwxyz", "a/b/uvwxyz", "uvwxyz/b/c", "a/uvwxyz/c")) {
                check.bad("'" + path + "'", Kit.path(x, path));
            }
            check.bad("twenty", Kit.path(x, "abcdefghijklmnopqrst"));
        });
        check.edge("letters a .. z", ignored -> {
            for (int value = 0; value <= 255; value++) {
                boolean letter = value >= 'a' && value <= 'z';
                PatchChains x = new PatchChains();
                due("byte " + value, Kit.path(x, "" + (char) value), letter ? 1 : PatchChains.BAD);
                int second = letter ? 1 : PatchChains.BAD;
                due("byte " + value + " behind a", Kit.path(x, "a" + (char) value), second);
                int between = letter ? 1 : value == '/' ? 2 : PatchChains.BAD;
                due("byte " + value + " between", Kit.path(x, "a" + (char) value + "z"), between);
            }
        });
    }

    private static void filesOfTrees() {
        check.edge("A TREE has up to 10 FILES", x -> {
            int t = x.tree(-1);
            due("without any", x.file(t, 0, 3), 0);
            for (int i = 0; i < 10; i++) {
                due("file " + (i + 1), Kit.put(x, t, "a/" + (char) ('a' + i), ""), i + 1);
            }
            due("file 11", Kit.put(x, t, "b", ""), PatchChains.FULL);
            due("still ten", x.file(t, 0, 3), 10);
            due("one goes", Kit.drop(x, t, "a/e"), 9);
            due("and one comes", Kit.put(x, t, "b", ""), 10);
            due("then it is full again", Kit.put(x, t, "a/e", ""), PatchChains.FULL);
        });
        check.edge("a CONTENT, 0 .. 48 bytes", x -> {
            int t = x.tree(-1);
            for (int n : new int[] {0, 1, 47, 48}) {
                due(n + " bytes", Kit.put(x, t, "f", FORTY_EIGHT.substring(0, n)), 1);
                due("all " + n, Kit.files(x, t), "f=" + FORTY_EIGHT.substring(0, n));
            }
            check.bad("49 bytes", Kit.put(x, t, "f", FORTY_EIGHT + "!"));
            x.path();
            check.bad("80 bytes", Kit.put(x, t, "f", FORTY_EIGHT + FORTY_EIGHT.substring(16)));
            due("the 48 stay", Kit.files(x, t), "f=" + FORTY_EIGHT);
        });
        check.edge("no FILE's PATH is that of another one", x -> {
            int t = Kit.tree(x, "a/b", "one", "c", "two");
            due("put once more", Kit.put(x, t, "a/b", "three"), 2);
            due("it is the same file", Kit.files(x, t), "a/b=three c=two");
            due("with no bytes", Kit.put(x, t, "a/b", ""), 2);
            due("it still is", Kit.files(x, t), "a/b= c=two");
        });
    }

    private static void pathsInTheWay() {
        check.edge("nor that of another one up to a /", ignored -> {
            String[][] both = {{"a", "a/b"}, {"a", "a/b/c"}, {"a/b", "a/b/c"}, {"abcde", "abcde/f"}};
            for (String[] pair : both) {
                PatchChains x = new PatchChains();
                due("below " + pair[0], Kit.put(x, Kit.tree(x, pair[0], ""), pair[1], ""), PatchChains.NONE);
                due("above " + pair[1], Kit.put(x, Kit.tree(x, pair[1], ""), pair[0], ""), PatchChains.NONE);
            }
        });
        check.edge("up to a / (not up to any other byte)", ignored -> {
            String[][] both = {{"a", "ab"}, {"a", "ab/c"}, {"a/b", "a/bc"}, {"a/b", "a/bc/d"}, {"a/b", "ab"},
                {"abcde/fghij/klmno", "abcde/fghij/klmnp"}, {"a/b", "a/c"}, {"b", "a/b"}, {"b/c", "a/b/c"}, {"a/b/c", "a/b/d"}, {"ab/c", "a/b"}};
            for (String[] pair : both) {
                PatchChains x = new PatchChains();
                due(pair[1] + " beside " + pair[0], Kit.put(x, Kit.tree(x, pair[0], ""), pair[1], ""), 2);
                due(pair[0] + " beside " + pair[1], Kit.put(x, Kit.tree(x, pair[1], ""), pair[0], ""), 2);
            }
        });
    }

    private static void orderOfPaths() {
        check.edge("ORDER of PATHS: by the first byte that differs", x -> {
            int t = Kit.tree(x, "z", "", "b/a", "", "ba", "", "a/z", "", "aa", "", "az/a", "", "azz", "");
            due("in order", Kit.files(x, t), "a/z= aa= az/a= azz= b/a= ba= z=");
        });
        check.edge("the shorter one first, if it is the beginning", x -> {
            int t = Kit.tree(x, "abcde", "", "a", "", "abc", "", "ab", "", "abcd", "");
            due("of one name", Kit.files(x, t), "a= ab= abc= abcd= abcde=");
            int u = Kit.tree(x, "m/bb/c", "", "m/bbb", "", "m/b", "", "m/bb/cc", "");
            due("of more", Kit.files(x, u), "m/b= m/bb/c= m/bb/cc= m/bbb=");
            due("not the shorter one, if it is not", Kit.files(x, Kit.tree(x, "b", "", "abc", "")), "abc= b=");
        });
    }

    private static void sums() {
        check.edge("SUM of a CONTENT: h = 5,381", x -> due("no bytes", x.file(Kit.tree(x, "f", ""), 0, 2), 5381));
        check.edge("its lowest 16 bits", x -> {
            String[] contents = {"\u0000", "\u00ff", "a", "ab", "hello", "\u00ff".repeat(48), "\u0000".repeat(48),
                Kit.letters('\u0000', 48)};
            int[] dues = {46501, 46426, 46532, 28198, 60903, 45573, 21253, 63493};
            for (int i = 0; i < dues.length; i++) {
                int t = Kit.tree(x, "f", contents[i]);
                due("content " + i, x.file(t, 0, 2), dues[i]);
            }
        });
    }

    private static void costOfDeltas() {
        check.edge("a byte told 2, a COPY 5", x -> {
            due("one byte is told", delta("a-", "a"), "['a']");
            due("two bytes are told", delta("ab-", "ab"), "['ab']");
            due("three are copied", delta("abc-", "abc"), "[0+3]");
            due("two between copies are told", delta("abc-de-fgh", "abcdefgh"), "[0+3 'de' 7+3]");
            due("three between copies are copied", delta("abc-def-ghi", "abcdefghi"), "[0+3 4+3 8+3]");
            due("48 are copied", delta(FORTY_EIGHT, FORTY_EIGHT.substring(1)), "[1+47]");
        });
        check.edge("It is the way of least COST through Y", x -> {
            due("a shorter copy, as the next one is longer then", delta("abcd-cdefghij", "abcdefghij"), "['ab' 5+8]");
            due("a longer copy and two bytes", delta("abcdef-defgh", "abcdefgh"), "[0+6 'gh']");
            due("two copies", delta("abcdef-defghi", "abcdefghi"), "[0+6 10+3]");
            due("no copy that is ahead in X alone", delta("-abcdefgh-", "abcdefgh"), "[1+8]");
        });
    }

    private static void likeWaysOfDeltas() {
        check.edge("of like ones at a place a COPY rather than a byte", x -> {
            due("copy and byte, 7", delta("abcd-bcde", "abcde"), "[0+4 'e']");
            due("copy and two bytes, 9", delta("abc-cde", "abcde"), "[0+3 'de']");
        });
        check.edge("the longest one", x -> {
            due("five and three, not three and five", delta("abcde-defgh", "abcdefgh"), "[0+5 8+3]");
            due("of one run", delta("aaaaaa", "aaaaaaaaaa"), "[0+6 0+4]");
            due("seven and four, not six and five", delta("abcdefg-defghijk", "abcdefghijk"), "[0+7 12+4]");
        });
        check.edge("from the least place at which X has these bytes", x -> {
            due("of two places", delta("x-abc-abc-", "abc"), "[2+3]");
            due("place 0", delta("abcabc-", "abc"), "[0+3]");
            due("where more would go on", delta("abcx-abcd", "abc!"), "[0+3 '!']");
            due("the longest ahead of the least place", delta("abcx-abcd", "abcd"), "[5+4]");
            due("the last place", delta("0123456789abc", "abc"), "[10+3]");
        });
        check.edge("Bytes told one behind the other are one INSERT", x -> {
            due("48", delta("", FORTY_EIGHT), "['" + FORTY_EIGHT + "']");
            due("on both sides of a copy", delta("abcdef", "12abcdef34"), "['12' 0+6 '34']");
            due("though X has some of them", delta("abcdef", "ab!ef"), "['ab!ef']");
            due("byte 0 among them", delta("", "x\u0000y\u0000"), "['x\u0000y\u0000']");
        });
        check.edge("COPY: n bytes of X from a place on; or INSERT: n bytes that it tells", x -> {
            due("byte 0 told ahead of place 0", delta("abcdef", "\u0000abcdef"), "['\u0000' 0+6]");
            due("byte 255 told ahead of place 0", delta("abcdef", "\u00ffabcdef"), "['\u00ff' 0+6]");
            due("byte 0 told behind a copy", delta("abcdef", "abcdef\u0000"), "[0+6 '\u0000']");
            due("copied bytes 0", delta("\u0000\u0000\u0000!", "\u0000\u0000\u0000"), "[0+3]");
        });
        check.edge("at which X has these bytes (and no X that was asked before)", x -> {
            int a = Kit.tree(x, "a", "XYZ", "b", "abc");
            int b = Kit.tree(x, "a", "abcXYZ", "b", "cQRS");
            due("a shorter X behind a longer one", Kit.steps(x, x.patch(a, b)),
                "CHANGE a<a ['abc' 0+3] [3+3]; CHANGE b<b ['cQRS'] ['abc']");
        });
    }

    private static void deltasOfNoBytes() {
        check.edge("(Of no bytes: no PIECES.)", x -> {
            int p = x.patch(Kit.tree(x, "f", "abc"), Kit.tree(x, "f", ""));
            due("pieces", x.step(p, 0, 7), 0);
            check.bad("no piece 0", x.piece(p, 0, 0, 0, -2));
            due("back there is one", x.step(p, 0, 8), 1);
            int q = x.patch(Kit.tree(x, "f", ""), Kit.tree(x, "f", "a"));
            due("of no bytes it is told", Kit.step(x, q, 0), "CHANGE f<f ['a'] []");
        });
    }

    private static void wholeDeltas() {
        check.edge("A WHOLE one is a COPY of all of X", x -> {
            due("of one byte", patchOf(tree("a", "x"), tree("b", "x")), "MOVE b<a [0+1] [0+1]");
            due("of two", patchOf(tree("a", "xy"), tree("b", "xy")), "MOVE b<a [0+2] [0+2]");
            due("of 48", patchOf(tree("a", FORTY_EIGHT), tree("b", FORTY_EIGHT)), "MOVE b<a [0+48] [0+48]");
        });
        check.edge("(none, if X has no bytes)", x -> {
            int a = Kit.tree(x, "a", "");
            int b = Kit.tree(x, "a", "0123");
            int c = Kit.tree(x, "b", "0123");
            int d = Kit.tree(x, "b", "");
            int p = x.chain(x.chain(x.patch(a, b), x.patch(b, c)), x.patch(c, d));
            due("from no bytes to none", Kit.steps(x, p), "MOVE b<a [] []");
            int q = x.chain(x.patch(a, b), x.patch(b, a));
            due("under one path nothing is left", x.step(q, 0, 9), 0);
        });
        check.edge("(none, if X has no bytes): with bytes it is not WHOLE without PIECES", x -> {
            int a = Kit.tree(x, "a", "0123");
            int b = Kit.tree(x, "b", "01234");
            int c = Kit.tree(x, "b", "");
            int p = x.chain(x.patch(a, b), x.patch(b, c));
            due("from bytes to none", Kit.steps(x, p), "MOVE+CHANGE b<a [] ['0123']");
        });
    }

    private static void sidesOfSteps() {
        check.edge("of all others FROM is PATH", x -> {
            due("ADD, DROP, CHANGE", patchOf(tree("b", "", "c/cc", "1"), tree("a", "", "c/cc", "2")),
                "ADD a<a [] []; DROP b<b [] []; CHANGE c/cc<c/cc ['2'] ['1']");
        });
        check.edge("SOURCE of a STEP: the FILE FROM (ADD: none)", x -> {
            int p = x.patch(x.tree(-1), Kit.tree(x, "a", ""));
            due("length", x.step(p, 0, 1), PatchChains.NONE);
            due("sum", x.step(p, 0, 2), PatchChains.NONE);
            due("length of the target", x.step(p, 0, 3), 0);
            due("sum of the target", x.step(p, 0, 4), 5381);
        });
        check.edge("TARGET: the FILE PATH (DROP: none)", x -> {
            int p = x.patch(Kit.tree(x, "a", ""), x.tree(-1));
            due("length", x.step(p, 0, 3), PatchChains.NONE);
            due("sum", x.step(p, 0, 4), PatchChains.NONE);
            due("length of the source", x.step(p, 0, 1), 0);
            due("sum of the source", x.step(p, 0, 2), 5381);
        });
        check.edge("(with no bytes where there is none)", x -> {
            due("ADD", patchOf(tree(), tree("a", "abc")), "ADD a<a ['abc'] []");
            due("DROP", patchOf(tree("a", "abc"), tree()), "DROP a<a [] ['abc']");
        });
    }

    private static void orderOfSteps() {
        check.edge("STEPS are in ORDER of PATH", x -> {
            due("whatever their sorts are",
                patchOf(tree("b", "", "e", "1234", "g", "1", "z", "12345678"),
                    tree("a", "", "c", "12345678!", "g", "2", "zz", "1234")),
                "ADD a<a [] []; DROP b<b [] []; MOVE+CHANGE c<z [0+8 '!'] [0+8]; CHANGE g<g ['2'] ['1']; "
                    + "MOVE zz<e [0+4] [0+4]");
        });
        check.edge("of one PATH the DROP first", x -> {
            int a = Kit.tree(x, "a", "one", "b", "0123456789");
            int b = Kit.tree(x, "b", "0123456789");
            int c = Kit.tree(x, "a", "0123456789");
            int p = x.chain(x.patch(a, b), x.patch(b, c));
            due("ahead of MOVE", Kit.steps(x, p), "DROP a<a [] ['one']; MOVE a<b [0+10] [0+10]");
            int d = Kit.tree(x, "a", "0123456789", "b", "x");
            int q = x.chain(x.patch(b, c), x.patch(c, d));
            due("ADD and MOVE", Kit.steps(x, q), "MOVE a<b [0+10] [0+10]; ADD b<b ['x'] []");
            due("in an inverse", Kit.steps(x, x.inverse(q)), "DROP b<b [] ['x']; MOVE b<a [0+10] [0+10]");
        });
        check.edge("of one PATH the DROP first (also ahead of an ADD)", x -> {
            int a = Kit.tree(x, "b", "0123456789");
            int b = Kit.tree(x, "a", "0123456789");
            int p = x.chain(x.patch(a, b), x.patch(b, Kit.tree(x, "b", "one")));
            due("there", Kit.steps(x, p), "DROP b<b [] ['0123456789']; ADD b<b ['one'] []");
            due("and back", Kit.steps(x, x.inverse(p)), "DROP b<b [] ['one']; ADD b<b ['0123456789'] []");
        });
    }

    private static void changes() {
        check.edge("CHANGE, if their CONTENTS are not the same", x -> {
            due("the same", patchOf(tree("a", "1", "b", ""), tree("a", "1", "b", "")), "");
            due("without files", patchOf(tree(), tree()), "");
            due("one byte", patchOf(tree("a", "1"), tree("a", "2")), "CHANGE a<a ['2'] ['1']");
            due("the last of 48", patchOf(tree("a", FORTY_EIGHT), tree("a", FORTY_EIGHT.substring(0, 47) + "!")),
                "CHANGE a<a [0+47 '!'] [0+47 '_']");
            String[] twins = Kit.twins();
            due("the same sum", patchOf(tree("a", twins[0]), tree("a", twins[1])),
                "CHANGE a<a ['" + twins[1] + "'] ['" + twins[0] + "']");
        });
    }

    private static void movesOfTheSame() {
        check.edge("For each NEW one with bytes", x -> {
            due("no bytes", patchOf(tree("a", ""), tree("b", "")), "DROP a<a [] []; ADD b<b [] []");
            due("one byte", patchOf(tree("a", "1"), tree("b", "1")), "MOVE b<a [0+1] [0+1]");
        });
        check.edge("in ORDER: the first GONE one with the same CONTENT", x -> {
            due("two of each", patchOf(tree("c", "same", "d", "same"), tree("a", "same", "b", "same")),
                "MOVE a<c [0+4] [0+4]; MOVE b<d [0+4] [0+4]");
            due("the first of two", patchOf(tree("c", "same", "d", "same"), tree("z", "same")),
                "DROP d<d [] ['same']; MOVE z<c [0+4] [0+4]");
        });
        check.edge("that is not taken yet", x -> {
            due("one for two", patchOf(tree("c", "12"), tree("a", "12", "b", "12")), "MOVE a<c [0+2] [0+2]; "
                + "ADD b<b ['12'] []");
        });
    }

    private static void leastLike() {
        String gone = FORTY_EIGHT;
        // 27 bytes of 48 and 42 make 600; 26 of 48 and 39 make 597: there is no number between
        String just = gone.substring(0, 27) + "!".repeat(15);
        String below = gone.substring(0, 26) + "!".repeat(13);
        check.edge("600 at least", x -> {
            due("600", patchOf(tree("a", gone), tree("b", just)), "MOVE+CHANGE b<a [0+27 '" + just.substring(27)
                + "'] [0+27 '" + gone.substring(27) + "']");
            due("597", patchOf(tree("a", gone), tree("b", below)),
                "DROP a<a [] ['" + gone + "']; ADD b<b ['" + below + "'] []");
            due("600 the other way", patchOf(tree("a", "abc"), tree("b", "-a-b-c-")),
                "MOVE+CHANGE b<a ['-a-b-c-'] ['abc']");
            due("545", patchOf(tree("a", "abc"), tree("b", "-a-b-c--")),
                "DROP a<a [] ['abc']; ADD b<b ['-a-b-c--'] []");
        });
        check.edge("the most bytes that stand in both in one order (not need they be side by side)", x -> {
            due("apart", patchOf(tree("a", "a1b2c3d4ef"), tree("b", "abcdefWXYZ")),
                "MOVE+CHANGE b<a ['abcdefWXYZ'] ['a1b2c3d4ef']");
            due("not in one order", patchOf(tree("a", "abcdefghij"), tree("b", "fghijabcde")),
                "DROP a<a [] ['abcdefghij']; ADD b<b ['fghijabcde'] []");
            due("a byte counts once", patchOf(tree("a", "aaaaaaaaaa"), tree("b", "a----")),
                "DROP a<a [] ['aaaaaaaaaa']; ADD b<b ['a----'] []");
        });
    }

    private static void likeOnes() {
        check.edge("the two that are most LIKE", x -> {
            due("not the first NEW", patchOf(tree("g", "0123456789"), tree("m", "01234567xy", "n", "012345678x")),
                "ADD m<m ['01234567xy'] []; MOVE+CHANGE n<g [0+9 'x'] [0+9 '9']");
            due("not the first GONE", patchOf(tree("g", "01234567xy", "h", "012345678x"), tree("m", "0123456789")),
                "DROP g<g [] ['01234567xy']; MOVE+CHANGE m<h [0+9 '9'] [0+9 'x']");
        });
        check.edge("of like ones the first NEW, then the first GONE one", x -> {
            due("the first NEW", patchOf(tree("g", "0123456789"), tree("m", "012345678a", "n", "012345678b")),
                "MOVE+CHANGE m<g [0+9 'a'] [0+9 '9']; ADD n<n ['012345678b'] []");
            due("the first GONE", patchOf(tree("g", "012345678a", "h", "012345678b"), tree("m", "0123456789")),
                "DROP h<h [] ['012345678b']; MOVE+CHANGE m<g [0+9 '9'] [0+9 'a']");
            // m is like h as n is like g: m comes ahead, and with it h
            due("NEW ahead of GONE", patchOf(tree("g", "0123456789", "h", "abcdefghij"),
                tree("m", "abcdefghi!", "n", "012345678!")),
                "MOVE+CHANGE m<h [0+9 '!'] [0+9 'j']; MOVE+CHANGE n<g [0+9 '!'] [0+9 '9']");
            due("of four like pairs the first two", patchOf(tree("g", "012345678a", "h", "012345678b"),
                tree("m", "012345678c", "n", "012345678d")),
                "MOVE+CHANGE m<g [0+9 'c'] [0+9 'a']; MOVE+CHANGE n<h [0+9 'd'] [0+9 'b']");
        });
        check.edge("on and on", x -> {
            int a = x.tree(-1);
            int b = x.tree(-1);
            for (int i = 0; i < 10; i++) {
                String content = ("" + (char) ('0' + i)).repeat(8);
                Kit.put(x, a, "a/" + (char) ('a' + i), content);
                Kit.put(x, b, "b/" + (char) ('j' - i), content + "!");
            }
            int p = x.patch(a, b);
            due("ten", x.step(p, 0, 9), 10);
            for (int i = 0; i < 10; i++) {
                due("step " + i, Kit.step(x, p, i), "MOVE+CHANGE b/" + (char) ('a' + i) + "<a/" + (char) ('j' - i)
                    + " [0+8 '!'] [0+8]");
            }
        });
    }

    private static void likeIsWhole() {
        check.edge("divided by the bytes of both together (whole; ..)", x -> {
            // 2,000 * 21 / 64 is 656.2, 2,000 * 22 / 67 is 656.7
            String gone = FORTY_EIGHT.substring(0, 40);
            String first = gone.substring(0, 21) + "!!!";
            String second = gone.substring(0, 22) + "!!!!!";
            due("both 656", patchOf(tree("g", gone), tree("m", first, "n", second)), "MOVE+CHANGE m<g [0+21 '!!!'] "
                + "[0+21 '" + gone.substring(21) + "']; ADD n<n ['" + second + "'] []");
        });
        check.edge("(..; 0 for none)", x -> {
            due("both without bytes", patchOf(tree("a", ""), tree("b", "")), "DROP a<a [] []; ADD b<b [] []");
            due("one without bytes", patchOf(tree("a", ""), tree("b", "1")), "DROP a<a [] []; ADD b<b ['1'] []");
            due("the other one", patchOf(tree("a", "1"), tree("b", "")), "DROP a<a [] ['1']; ADD b<b [] []");
        });
    }

    private static void others() {
        check.edge("The others: ADD, DROP", x -> {
            int a = x.tree(-1);
            int b = x.tree(-1);
            for (int i = 0; i < 10; i++) {
                Kit.put(x, a, "a/" + (char) ('a' + i), "");
                Kit.put(x, b, "b/" + (char) ('a' + i), "");
            }
            int p = x.patch(a, b);
            due("twenty steps", x.step(p, 0, 9), 20);
            for (int i = 0; i < 20; i++) {
                due("sort of " + i, x.step(p, i, 0), i < 10 ? 1 : 0);
            }
            due("as b", x.same(x.apply(p, a, true), b), 1);
        });
    }
}
