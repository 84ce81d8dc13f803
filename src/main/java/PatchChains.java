/** Patches over trees of files, and a disk on which a tree stands wholly or not at all. */
public final class PatchChains {
    public static final int BAD = -1, NONE = -2, FULL = -3, DOWN = -4;

    private static final int TAPE_ROOM = 80, FEED_BYTES = 20;
    private static final int MOST_NAMES = 3, MOST_LETTERS = 5, PATH_ROOM = 17, CONTENT_ROOM = 48;
    private static final int MOST_FILES = 10, MOST_TREES = 12, MOST_STEPS = 24, MOST_PATCHES = 8;
    private static final int ADD = 0, DROP = 1, CHANGE = 2, MOVE = 3, MOVE_CHANGE = 4;
    private static final int TOLD_COST = 2, COPY_COST = 5;
    private static final int LIKE_SCALE = 2000, LEAST_LIKE = 600;
    private static final int FIRST_SUM = 5381, SUM_FACTOR = 33, SUM_MASK = 0xFFFF;
    private static final int SLOTS = 30, MOST_POWER = 40, FOR_EVER = -1;
    private static final int NOT_FOUND = -1, FITS = 0, REFUSED = -10;

    private final Bytes tape;
    private final Bytes pathAtHand;
    private final Tree[] trees;
    private final Patch[] patches;
    private final Differ differ;
    private final Applier applier;
    private final Disk disk;
    private int treeCount;
    private int patchCount;

    public PatchChains() {
        tape = new Bytes(TAPE_ROOM);
        pathAtHand = new Bytes(PATH_ROOM);
        trees = new Tree[MOST_TREES];
        for (int t = 0; t < MOST_TREES; t++) {
            trees[t] = new Tree();
        }
        patches = new Patch[MOST_PATCHES];
        for (int p = 0; p < MOST_PATCHES; p++) {
            patches[p] = new Patch();
        }
        differ = new Differ();
        applier = new Applier();
        disk = new Disk();
        treeCount = 0;
        patchCount = 0;
    }

    // ---- the tape, the path at hand

    public int feed(int a, int b, int c, int d, int e) {
        if (tape.size() + FEED_BYTES > TAPE_ROOM) {
            return FULL;
        }
        tape.addNumber(a);
        tape.addNumber(b);
        tape.addNumber(c);
        tape.addNumber(d);
        tape.addNumber(e);
        return tape.size();
    }

    public int end(int n) {
        if (n < 0 || n > FEED_BYTES || tape.size() < FEED_BYTES) {
            return BAD;
        }
        tape.cutTo(tape.size() - FEED_BYTES + n);
        return tape.size();
    }

    public int path() {
        int names = tape.names();
        if (names > 0) {
            pathAtHand.copyOf(tape);
        }
        tape.empty();
        return names > 0 ? names : BAD;
    }

    // ---- trees

    public int tree(int t) {
        if (t != -1 && !isTree(t)) {
            return BAD;
        }
        if (treeCount >= MOST_TREES) {
            return FULL;
        }
        if (t < 0) {
            trees[treeCount].empty();
        } else {
            trees[treeCount].copyOf(trees[t]);
        }
        return keepTree();
    }

    public int put(int t) {
        if (!isTree(t) || pathAtHand.size() == 0 || tape.size() > CONTENT_ROOM) {
            return BAD;
        }
        int answer = trees[t].take(pathAtHand, tape);
        if (answer >= 0) {
            tape.empty();
        }
        return answer;
    }

    public int drop(int t) {
        if (!isTree(t) || pathAtHand.size() == 0) {
            return BAD;
        }
        int i = trees[t].find(pathAtHand);
        if (i == NOT_FOUND) {
            return BAD;
        }
        trees[t].remove(i);
        return trees[t].size();
    }

    public int file(int t, int i, int what) {
        if (!isTree(t)) {
            return BAD;
        }
        Tree tree = trees[t];
        if (what == 3) {
            return tree.size();
        }
        if (!tree.has(i)) {
            return BAD;
        }
        switch (what) {
            case 0:
                return tree.pathAt(i).size();
            case 1:
                return tree.contentAt(i).size();
            case 2:
                return tree.contentAt(i).sum();
            default:
                return BAD;
        }
    }

    public int byteOf(int t, int i, int side, int k) {
        if (!isTree(t) || !trees[t].has(i)) {
            return BAD;
        }
        switch (side) {
            case 0:
                return trees[t].contentAt(i).at(k);
            case 1:
                return trees[t].pathAt(i).at(k);
            default:
                return BAD;
        }
    }

    public int same(int t, int u) {
        if (!isTree(t) || !isTree(u)) {
            return BAD;
        }
        return trees[t].equalTo(trees[u]) ? 1 : 0;
    }

    public int clear() {
        int were = treeCount;
        treeCount = 0;
        patchCount = 0;
        return were;
    }

    // ---- patches

    public int patch(int a, int b) {
        if (!isTree(a) || !isTree(b)) {
            return BAD;
        }
        if (patchCount >= MOST_PATCHES) {
            return FULL;
        }
        differ.difference(trees[a], trees[b], patches[patchCount]);
        return keepPatch();
    }

    public int step(int p, int i, int what) {
        if (!isPatch(p)) {
            return BAD;
        }
        if (what == 9) {
            return patches[p].size();
        }
        return patches[p].has(i) ? patches[p].at(i).tell(what) : BAD;
    }

    public int stepByte(int p, int i, int side, int k) {
        if (!isPatch(p) || !patches[p].has(i)) {
            return BAD;
        }
        switch (side) {
            case 0:
                return patches[p].at(i).path.at(k);
            case 1:
                return patches[p].at(i).from.at(k);
            default:
                return BAD;
        }
    }

    public int piece(int p, int i, int side, int j, int k) {
        if (!isPatch(p) || !patches[p].has(i)) {
            return BAD;
        }
        switch (side) {
            case 0:
                return patches[p].at(i).delta.tellPiece(j, k);
            case 1:
                return patches[p].at(i).back.tellPiece(j, k);
            default:
                return BAD;
        }
    }

    public int apply(int p, int t, boolean strictly) {
        if (!isPatch(p) || !isTree(t)) {
            return BAD;
        }
        if (treeCount >= MOST_TREES) {
            return FULL;
        }
        int rule = applier.run(patches[p], trees[t], strictly, trees[treeCount]);
        return rule == FITS ? keepTree() : REFUSED - rule;
    }

    public int conflict(int i, int what) {
        return applier.tellConflict(i, what);
    }

    public int inverse(int p) {
        if (!isPatch(p)) {
            return BAD;
        }
        if (patchCount >= MOST_PATCHES) {
            return FULL;
        }
        patches[patchCount].inverseOf(patches[p]);
        return keepPatch();
    }

    public int chain(int p, int q) {
        if (!isPatch(p) || !isPatch(q)) {
            return BAD;
        }
        if (patchCount >= MOST_PATCHES) {
            return FULL;
        }
        int rule = Joiner.ruleBroken(patches[p], patches[q]);
        if (rule != FITS) {
            return REFUSED - rule;
        }
        return Joiner.join(patches[p], patches[q], patches[patchCount]) ? keepPatch() : FULL;
    }

    // ---- the disk

    public int power(int n) {
        if (n < FOR_EVER || n > MOST_POWER) {
            return BAD;
        }
        return disk.setPower(n);
    }

    public int install(int t) {
        return isTree(t) ? disk.write(trees[t]) : BAD;
    }

    public int open() {
        if (treeCount >= MOST_TREES) {
            return FULL;
        }
        disk.read(trees[treeCount]);
        return keepTree();
    }

    public int slot(int i, int what) {
        return disk.tellSlot(i, what);
    }

    public int count(int what) {
        switch (what) {
            case 0:
                return treeCount;
            case 1:
                return patchCount;
            case 2:
                return tape.size();
            case 3:
                return pathAtHand.size();
            case 4:
                return disk.listed();
            case 5:
                return disk.writings();
            case 6:
                return disk.isDown() ? 1 : 0;
            case 7:
                return disk.counting();
            default:
                return BAD;
        }
    }

    private boolean isTree(int t) {
        return t >= 0 && t < treeCount;
    }

    private boolean isPatch(int p) {
        return p >= 0 && p < patchCount;
    }

    private int keepTree() {
        treeCount++;
        return treeCount - 1;
    }

    private int keepPatch() {
        patchCount++;
        return patchCount - 1;
    }

    /** A row of bytes, 0 .. 255 each, in a room that does not grow. */
    private static final class Bytes {
        private final int[] row;
        private int size;

        Bytes(int room) {
            row = new int[Math.max(room, 0)];
            size = 0;
        }

        int size() {
            return size;
        }

        int at(int k) {
            return k >= 0 && k < size ? row[k] : BAD;
        }

        void empty() {
            size = 0;
        }

        void cutTo(int left) {
            if (left >= 0 && left < size) {
                size = left;
            }
        }

        void add(int value) {
            if (size < row.length) {
                row[size] = value & 255;
                size++;
            }
        }

        void addNumber(int number) {
            for (int shift = 24; shift >= 0; shift -= 8) {
                add(number >>> shift);
            }
        }

        void copyOf(Bytes other) {
            size = Math.min(other.size, row.length);
            for (int k = 0; k < size; k++) {
                row[k] = other.row[k];
            }
        }

        boolean equalTo(Bytes other) {
            return size == other.size && order(other) == 0;
        }

        /** Below 0: this one is ahead of the other in ORDER. */
        int order(Bytes other) {
            int both = Math.min(size, other.size);
            for (int k = 0; k < both; k++) {
                if (row[k] != other.row[k]) {
                    return row[k] - other.row[k];
                }
            }
            return size - other.size;
        }

        /** Whether this PATH is the other one up to a / . */
        boolean isAbove(Bytes other) {
            if (size >= other.size || other.row[size] != '/') {
                return false;
            }
            for (int k = 0; k < size; k++) {
                if (row[k] != other.row[k]) {
                    return false;
                }
            }
            return true;
        }

        int sum() {
            int h = FIRST_SUM;
            for (int k = 0; k < size; k++) {
                h = (SUM_FACTOR * h ^ row[k]) & SUM_MASK;
            }
            return h;
        }

        /** How many names the PATH has; 0: it is no PATH. */
        int names() {
            int names = 1;
            int letters = 0;
            for (int k = 0; k < size; k++) {
                if (row[k] >= 'a' && row[k] <= 'z' && letters < MOST_LETTERS) {
                    letters++;
                } else if (row[k] == '/' && letters > 0 && names < MOST_NAMES) {
                    names++;
                    letters = 0;
                } else {
                    return 0;
                }
            }
            return letters > 0 ? names : 0;
        }
    }

    /** FILES in ORDER; the rows behind them are free and used again. */
    private static final class Tree {
        private final Bytes[] paths;
        private final Bytes[] contents;
        private final Bytes nothing;
        private int size;

        Tree() {
            paths = new Bytes[MOST_FILES];
            contents = new Bytes[MOST_FILES];
            for (int i = 0; i < MOST_FILES; i++) {
                paths[i] = new Bytes(PATH_ROOM);
                contents[i] = new Bytes(CONTENT_ROOM);
            }
            nothing = new Bytes(0);
            size = 0;
        }

        int size() {
            return size;
        }

        boolean has(int i) {
            return i >= 0 && i < size;
        }

        Bytes pathAt(int i) {
            return has(i) ? paths[i] : nothing;
        }

        Bytes contentAt(int i) {
            return has(i) ? contents[i] : nothing;
        }

        int find(Bytes path) {
            for (int i = 0; i < size; i++) {
                if (paths[i].equalTo(path)) {
                    return i;
                }
            }
            return NOT_FOUND;
        }

        void empty() {
            size = 0;
        }

        void copyOf(Tree other) {
            size = other.size;
            for (int i = 0; i < size; i++) {
                paths[i].copyOf(other.paths[i]);
                contents[i].copyOf(other.contents[i]);
            }
        }

        boolean equalTo(Tree other) {
            if (size != other.size) {
                return false;
            }
            for (int i = 0; i < size; i++) {
                if (!paths[i].equalTo(other.paths[i]) || !contents[i].equalTo(other.contents[i])) {
                    return false;
                }
            }
            return true;
        }

        /** How many FILES there are then; NONE: another one stands in the way; FULL. */
        int take(Bytes path, Bytes content) {
            int i = find(path);
            if (i == NOT_FOUND) {
                if (isBarred(path)) {
                    return NONE;
                }
                if (size >= MOST_FILES) {
                    return FULL;
                }
                i = makePlace(path);
            }
            contents[i].copyOf(content);
            return size;
        }

        void remove(int i) {
            if (!has(i)) {
                return;
            }
            Bytes freePath = paths[i];
            Bytes freeContent = contents[i];
            for (int k = i + 1; k < size; k++) {
                paths[k - 1] = paths[k];
                contents[k - 1] = contents[k];
            }
            size--;
            paths[size] = freePath;
            contents[size] = freeContent;
        }

        private boolean isBarred(Bytes path) {
            for (int i = 0; i < size; i++) {
                if (paths[i].isAbove(path) || path.isAbove(paths[i])) {
                    return true;
                }
            }
            return false;
        }

        /** Only for a TREE that is not full. */
        private int makePlace(Bytes path) {
            Bytes freePath = paths[size];
            Bytes freeContent = contents[size];
            int i = size;
            for (; i > 0 && path.order(paths[i - 1]) < 0; i--) {
                paths[i] = paths[i - 1];
                contents[i] = contents[i - 1];
            }
            freePath.copyOf(path);
            paths[i] = freePath;
            contents[i] = freeContent;
            size++;
            return i;
        }
    }

    /**
     * For each byte of Y its place in X, or, if it is told, ~byte (which is below 0). No DELTA has two
     * COPIES behind one another that are side by side in X, so the PIECES can be read off this row.
     */
    private static final class Delta {
        private final int[] origins;
        private int size;

        Delta() {
            origins = new int[CONTENT_ROOM];
            size = 0;
        }

        void empty() {
            size = 0;
        }

        void addPlace(int place) {
            addOrigin(place);
        }

        void addTold(int value) {
            addOrigin(~value);
        }

        void copyOf(Delta other) {
            size = other.size;
            for (int k = 0; k < size; k++) {
                origins[k] = other.origins[k];
            }
        }

        void becomeWhole(int length) {
            size = 0;
            for (int k = 0; k < length; k++) {
                addPlace(k);
            }
        }

        boolean isWhole(int length) {
            if (size != length) {
                return false;
            }
            for (int k = 0; k < size; k++) {
                if (origins[k] != k) {
                    return false;
                }
            }
            return true;
        }

        /** From X to Z, of the ones from X to Y and from Y to Z. */
        void joinOf(Delta first, Delta second) {
            size = 0;
            for (int k = 0; k < second.size; k++) {
                int origin = second.origins[k];
                if (origin < 0) {
                    addOrigin(origin);
                } else if (origin < first.size) {
                    addOrigin(first.origins[origin]);
                }
            }
        }

        void make(Bytes x, Bytes out) {
            out.empty();
            for (int k = 0; k < size; k++) {
                out.add(origins[k] < 0 ? ~origins[k] : x.at(origins[k]));
            }
        }

        int pieces() {
            int pieces = 0;
            for (int k = 0; k < size; k++) {
                if (startsPiece(k)) {
                    pieces++;
                }
            }
            return pieces;
        }

        int tellPiece(int j, int k) {
            int start = startOf(j);
            if (start == NOT_FOUND) {
                return BAD;
            }
            boolean told = origins[start] < 0;
            int length = lengthFrom(start);
            if (k == -1) {
                return told ? NONE : origins[start];
            }
            if (k == -2) {
                return length;
            }
            return told && k >= 0 && k < length ? ~origins[start + k] : BAD;
        }

        private void addOrigin(int origin) {
            if (size < origins.length) {
                origins[size] = origin;
                size++;
            }
        }

        private boolean startsPiece(int k) {
            if (k <= 0 || k >= size) {
                return k == 0;
            }
            if (origins[k] < 0 || origins[k - 1] < 0) {
                return origins[k] >= 0 || origins[k - 1] >= 0;
            }
            return origins[k] != origins[k - 1] + 1;
        }

        private int startOf(int j) {
            int left = j;
            for (int k = 0; k < size; k++) {
                if (startsPiece(k)) {
                    if (left == 0) {
                        return k;
                    }
                    left--;
                }
            }
            return NOT_FOUND;
        }

        private int lengthFrom(int start) {
            int k = start + 1;
            while (k < size && !startsPiece(k)) {
                k++;
            }
            return k - start;
        }
    }

    private static final class Step {
        private final Bytes path;
        private final Bytes from;
        private final Delta delta;
        private final Delta back;
        private int sort;
        private int sourceLength;
        private int sourceSum;
        private int targetLength;
        private int targetSum;

        Step() {
            path = new Bytes(PATH_ROOM);
            from = new Bytes(PATH_ROOM);
            delta = new Delta();
            back = new Delta();
            sort = ADD;
            sourceLength = NONE;
            sourceSum = NONE;
            targetLength = NONE;
            targetSum = NONE;
        }

        boolean hasSource() {
            return sort != ADD;
        }

        boolean hasTarget() {
            return sort != DROP;
        }

        boolean takesFrom(Bytes somePath) {
            return hasSource() && from.equalTo(somePath);
        }

        boolean bringsTo(Bytes somePath) {
            return hasTarget() && path.equalTo(somePath);
        }

        boolean isSource(Bytes content) {
            return content.size() == sourceLength && content.sum() == sourceSum;
        }

        /** Whether the SOURCE is, as far as is told of it, the TARGET of the other one. */
        boolean goesOnFrom(Step other) {
            return other.targetLength == sourceLength && other.targetSum == sourceSum;
        }

        boolean isBehind(Step other) {
            int order = path.order(other.path);
            return order > 0 || order == 0 && sort != DROP && other.sort == DROP;
        }

        void setSource(Bytes sourcePath, Bytes content) {
            from.copyOf(sourcePath);
            sourceLength = hasSource() ? content.size() : NONE;
            sourceSum = hasSource() ? content.sum() : NONE;
        }

        void setTarget(Bytes targetPath, Bytes content) {
            path.copyOf(targetPath);
            targetLength = hasTarget() ? content.size() : NONE;
            targetSum = hasTarget() ? content.sum() : NONE;
        }

        void copyOf(Step other) {
            sort = other.sort;
            path.copyOf(other.path);
            from.copyOf(other.from);
            copySource(other);
            copyTarget(other);
            delta.copyOf(other.delta);
            back.copyOf(other.back);
        }

        void inverseOf(Step other) {
            sort = other.sort == ADD ? DROP : other.sort == DROP ? ADD : other.sort;
            path.copyOf(other.from);
            from.copyOf(other.path);
            sourceLength = other.targetLength;
            sourceSum = other.targetSum;
            targetLength = other.sourceLength;
            targetSum = other.sourceSum;
            delta.copyOf(other.back);
            back.copyOf(other.delta);
        }

        /** CHANGE of a FILE that was dropped and added anew. */
        void changeOf(Step dropped, Step added) {
            sort = CHANGE;
            path.copyOf(added.path);
            from.copyOf(dropped.path);
            copySource(dropped);
            copyTarget(added);
            delta.copyOf(added.delta);
            back.copyOf(dropped.back);
        }

        /** One with the second one behind the first one; false: nothing is left of the two. */
        boolean joinOf(Step first, Step second) {
            copySource(first);
            copyTarget(second);
            delta.joinOf(first.delta, second.delta);
            back.joinOf(second.back, first.back);
            if (first.sort == ADD && second.sort == DROP) {
                return false;
            }
            path.copyOf(second.sort == DROP ? first.from : second.path);
            from.copyOf(first.sort == ADD ? second.path : first.from);
            if (first.sort == ADD || second.sort == DROP) {
                sort = first.sort == ADD ? ADD : DROP;
                return true;
            }
            boolean stays = path.equalTo(from);
            boolean whole = delta.isWhole(sourceLength);
            sort = stays ? CHANGE : whole ? MOVE : MOVE_CHANGE;
            return !stays || !whole;
        }

        int tell(int what) {
            switch (what) {
                case 0:
                    return sort;
                case 1:
                    return sourceLength;
                case 2:
                    return sourceSum;
                case 3:
                    return targetLength;
                case 4:
                    return targetSum;
                case 5:
                    return path.size();
                case 6:
                    return from.size();
                case 7:
                    return delta.pieces();
                case 8:
                    return back.pieces();
                default:
                    return BAD;
            }
        }

        private void copySource(Step other) {
            sourceLength = other.sourceLength;
            sourceSum = other.sourceSum;
        }

        private void copyTarget(Step other) {
            targetLength = other.targetLength;
            targetSum = other.targetSum;
        }
    }

    /** STEPS in ORDER; one row more than they may be, so that there is always a blank one to fill. */
    private static final class Patch {
        private final Step[] steps;
        private int size;

        Patch() {
            steps = new Step[MOST_STEPS + 1];
            for (int i = 0; i <= MOST_STEPS; i++) {
                steps[i] = new Step();
            }
            size = 0;
        }

        int size() {
            return size;
        }

        boolean has(int i) {
            return i >= 0 && i < size;
        }

        /** The blank one, if there is no such STEP. */
        Step at(int i) {
            return has(i) ? steps[i] : steps[size];
        }

        Step blank() {
            return steps[size];
        }

        void empty() {
            size = 0;
        }

        /** The blank STEP, filled, comes to its place in ORDER; false: there are too many. */
        boolean keepBlank() {
            if (size >= MOST_STEPS) {
                return false;
            }
            Step kept = steps[size];
            int i = size;
            for (; i > 0 && steps[i - 1].isBehind(kept); i--) {
                steps[i] = steps[i - 1];
            }
            steps[i] = kept;
            size++;
            return true;
        }

        int findSource(Bytes path) {
            for (int i = 0; i < size; i++) {
                if (steps[i].takesFrom(path)) {
                    return i;
                }
            }
            return NOT_FOUND;
        }

        int findTarget(Bytes path) {
            for (int i = 0; i < size; i++) {
                if (steps[i].bringsTo(path)) {
                    return i;
                }
            }
            return NOT_FOUND;
        }

        void inverseOf(Patch other) {
            empty();
            for (int i = 0; i < other.size; i++) {
                blank().inverseOf(other.steps[i]);
                keepBlank();
            }
        }
    }

    /** Finds the DELTA of least COST, from the end of Y to its beginning. */
    private static final class Weaver {
        private final int[] runs;
        private final int[] costs;
        private final int[] copyLengths;
        private final int[] copyPlaces;

        Weaver() {
            runs = new int[CONTENT_ROOM + 1];
            costs = new int[CONTENT_ROOM + 1];
            copyLengths = new int[CONTENT_ROOM];
            copyPlaces = new int[CONTENT_ROOM];
        }

        void weave(Bytes x, Bytes y, Delta out) {
            int length = Math.min(y.size(), CONTENT_ROOM);
            for (int i = 0; i <= CONTENT_ROOM; i++) {
                runs[i] = 0;
            }
            costs[length] = 0;
            for (int j = length - 1; j >= 0; j--) {
                int longest = lengthenRuns(x, y.at(j));
                choose(j, Math.min(longest, length - j));
            }
            tellChosen(y, length, out);
        }

        /** Makes of the runs that X and Y share from y's next place on those from this place on. */
        private int lengthenRuns(Bytes x, int value) {
            int longest = 0;
            int places = Math.min(x.size(), CONTENT_ROOM);
            for (int i = 0; i < places; i++) {
                runs[i] = x.at(i) == value ? runs[i + 1] + 1 : 0;
                longest = Math.max(longest, runs[i]);
            }
            return longest;
        }

        private void choose(int j, int longest) {
            costs[j] = TOLD_COST + costs[j + 1];
            copyLengths[j] = 0;
            copyPlaces[j] = 0;
            for (int length = 1; length <= longest; length++) {
                int cost = COPY_COST + costs[j + length];
                if (cost <= costs[j]) {
                    costs[j] = cost;
                    copyLengths[j] = length;
                }
            }
            if (copyLengths[j] > 0) {
                copyPlaces[j] = leastPlace(copyLengths[j]);
            }
        }

        private int leastPlace(int length) {
            int place = 0;
            while (place < CONTENT_ROOM && runs[place] < length) {
                place++;
            }
            return place;
        }

        private void tellChosen(Bytes y, int length, Delta out) {
            out.empty();
            int copied = 0;
            int place = 0;
            for (int j = 0; j < length; j++) {
                if (copied == 0) {
                    copied = copyLengths[j];
                    place = copyPlaces[j];
                }
                if (copied == 0) {
                    out.addTold(y.at(j));
                } else {
                    out.addPlace(place);
                    place++;
                    copied--;
                }
            }
        }
    }

    /** Finds THE PATCH from one TREE to another one. */
    private static final class Differ {
        private final Weaver weaver;
        private final boolean[] goneLeft;
        private final boolean[] newLeft;
        private final int[][] likeness;
        private final int[] common;

        Differ() {
            weaver = new Weaver();
            goneLeft = new boolean[MOST_FILES];
            newLeft = new boolean[MOST_FILES];
            likeness = new int[MOST_FILES][MOST_FILES];
            common = new int[CONTENT_ROOM + 1];
        }

        void difference(Tree a, Tree b, Patch out) {
            out.empty();
            for (int i = 0; i < a.size(); i++) {
                int j = b.find(a.pathAt(i));
                goneLeft[i] = j == NOT_FOUND;
                if (j != NOT_FOUND && !a.contentAt(i).equalTo(b.contentAt(j))) {
                    addStep(CHANGE, a, i, b, j, out);
                }
            }
            for (int j = 0; j < b.size(); j++) {
                newLeft[j] = a.find(b.pathAt(j)) == NOT_FOUND;
            }
            addMoves(a, b, out);
            addMovesWithChange(a, b, out);
            addOthers(a, b, out);
        }

        private void addMoves(Tree a, Tree b, Patch out) {
            for (int j = 0; j < b.size(); j++) {
                if (newLeft[j] && b.contentAt(j).size() > 0) {
                    int i = firstGoneWith(b.contentAt(j), a);
                    if (i != NOT_FOUND) {
                        addStep(MOVE, a, i, b, j, out);
                        goneLeft[i] = false;
                        newLeft[j] = false;
                    }
                }
            }
        }

        private int firstGoneWith(Bytes content, Tree a) {
            for (int i = 0; i < a.size(); i++) {
                if (goneLeft[i] && a.contentAt(i).equalTo(content)) {
                    return i;
                }
            }
            return NOT_FOUND;
        }

        private void addMovesWithChange(Tree a, Tree b, Patch out) {
            measureLikeness(a, b);
            for (int round = 0; round < MOST_FILES; round++) {
                int most = LEAST_LIKE - 1;
                int bestGone = NOT_FOUND;
                int bestNew = NOT_FOUND;
                for (int j = 0; j < b.size(); j++) {
                    for (int i = 0; i < a.size(); i++) {
                        if (newLeft[j] && goneLeft[i] && likeness[j][i] > most) {
                            most = likeness[j][i];
                            bestGone = i;
                            bestNew = j;
                        }
                    }
                }
                if (bestGone == NOT_FOUND) {
                    return;
                }
                addStep(MOVE_CHANGE, a, bestGone, b, bestNew, out);
                goneLeft[bestGone] = false;
                newLeft[bestNew] = false;
            }
        }

        private void measureLikeness(Tree a, Tree b) {
            for (int j = 0; j < b.size(); j++) {
                for (int i = 0; i < a.size(); i++) {
                    boolean asked = newLeft[j] && goneLeft[i];
                    likeness[j][i] = asked ? like(a.contentAt(i), b.contentAt(j)) : 0;
                }
            }
        }

        private int like(Bytes x, Bytes y) {
            int bytes = x.size() + y.size();
            return bytes == 0 ? 0 : LIKE_SCALE * mostCommon(x, y) / bytes;
        }

        private int mostCommon(Bytes x, Bytes y) {
            int width = Math.min(y.size(), CONTENT_ROOM);
            for (int k = 0; k <= width; k++) {
                common[k] = 0;
            }
            // The dearest loop of all: it looks into the rows themselves.
            for (int i = 0; i < x.size; i++) {
                int value = x.row[i];
                int before = 0;
                for (int k = 1; k <= width; k++) {
                    int above = common[k];
                    if (y.row[k - 1] == value) {
                        common[k] = before + 1;
                    } else if (common[k - 1] > above) {
                        common[k] = common[k - 1];
                    }
                    before = above;
                }
            }
            return common[width];
        }

        private void addOthers(Tree a, Tree b, Patch out) {
            for (int i = 0; i < a.size(); i++) {
                if (goneLeft[i]) {
                    addStep(DROP, a, i, b, NOT_FOUND, out);
                }
            }
            for (int j = 0; j < b.size(); j++) {
                if (newLeft[j]) {
                    addStep(ADD, a, NOT_FOUND, b, j, out);
                }
            }
        }

        /** A TREE gives no bytes for a FILE that is not found: so ADD and DROP have the DELTAS they should. */
        private void addStep(int sort, Tree a, int i, Tree b, int j, Patch out) {
            Bytes source = a.contentAt(i);
            Bytes target = b.contentAt(j);
            Step step = out.blank();
            step.sort = sort;
            step.setSource(sort == ADD ? b.pathAt(j) : a.pathAt(i), source);
            step.setTarget(sort == DROP ? a.pathAt(i) : b.pathAt(j), target);
            if (sort == MOVE) {
                step.delta.becomeWhole(source.size());
                step.back.becomeWhole(target.size());
            } else {
                weaver.weave(source, target, step.delta);
                weaver.weave(target, source, step.back);
            }
            out.keepBlank();
        }
    }

    /** APPLIES PATCHES, and keeps the CONFLICTS of the latest one. */
    private static final class Applier {
        private final boolean[] goes;
        private final int[] conflictSteps;
        private final int[] conflictRules;
        private final Bytes made;
        private int conflicts;

        Applier() {
            goes = new boolean[MOST_STEPS];
            conflictSteps = new int[MOST_STEPS];
            conflictRules = new int[MOST_STEPS];
            made = new Bytes(CONTENT_ROOM);
            conflicts = 0;
        }

        /** FITS, or the RULE by which it is refused. */
        int run(Patch patch, Tree tree, boolean strictly, Tree out) {
            conflicts = 0;
            for (int i = 0; i < patch.size(); i++) {
                goes[i] = true;
            }
            // Each round takes one STEP away, so there are no more rounds than STEPS.
            for (int round = 0; round < patch.size(); round++) {
                int i = firstMisfit(patch, tree);
                if (i == NOT_FOUND) {
                    break;
                }
                int rule = ruleBroken(patch, i, tree);
                keepConflict(i, rule);
                if (strictly) {
                    return rule;
                }
                goes[i] = false;
            }
            return build(patch, tree, out) ? FITS : 5;
        }

        int tellConflict(int i, int what) {
            if (i == -1 && what == 0) {
                return conflicts;
            }
            if (i < 0 || i >= conflicts) {
                return BAD;
            }
            switch (what) {
                case 0:
                    return conflictSteps[i];
                case 1:
                    return conflictRules[i];
                default:
                    return BAD;
            }
        }

        private void keepConflict(int i, int rule) {
            if (conflicts < MOST_STEPS) {
                conflictSteps[conflicts] = i;
                conflictRules[conflicts] = rule;
                conflicts++;
            }
        }

        private int firstMisfit(Patch patch, Tree tree) {
            for (int i = 0; i < patch.size(); i++) {
                if (goes[i] && ruleBroken(patch, i, tree) != FITS) {
                    return i;
                }
            }
            return NOT_FOUND;
        }

        private int ruleBroken(Patch patch, int i, Tree tree) {
            Step step = patch.at(i);
            int source = tree.find(step.from);
            if (step.hasSource()) {
                if (source == NOT_FOUND) {
                    return 1;
                }
                if (!step.isSource(tree.contentAt(source))) {
                    return 2;
                }
            }
            if (step.hasTarget()) {
                step.delta.make(tree.contentAt(source), made);
                if (made.sum() != step.targetSum) {
                    return 4;
                }
                if (tree.find(step.path) != NOT_FOUND && !isTakenAway(step.path, patch)) {
                    return 3;
                }
            }
            return FITS;
        }

        private boolean isTakenAway(Bytes path, Patch patch) {
            for (int i = 0; i < patch.size(); i++) {
                Step step = patch.at(i);
                if (goes[i] && step.hasSource() && step.from.equalTo(path)) {
                    return true;
                }
            }
            return false;
        }

        private boolean build(Patch patch, Tree tree, Tree out) {
            out.empty();
            for (int i = 0; i < tree.size(); i++) {
                if (!isTakenAway(tree.pathAt(i), patch)) {
                    out.take(tree.pathAt(i), tree.contentAt(i));
                }
            }
            for (int i = 0; i < patch.size(); i++) {
                Step step = patch.at(i);
                if (goes[i] && step.hasTarget()) {
                    step.delta.make(tree.contentAt(tree.find(step.from)), made);
                    if (out.take(step.path, made) < 0) {
                        return false;
                    }
                }
            }
            return true;
        }
    }

    /** CHAINS of two PATCHES. In a PATCH no PATH is the SOURCE of two STEPS, and none the TARGET of two. */
    private static final class Joiner {
        static int ruleBroken(Patch p, Patch q) {
            for (int i = 0; i < q.size(); i++) {
                int rule = ruleBrokenBy(q.at(i), p, q);
                if (rule != FITS) {
                    return rule;
                }
            }
            return FITS;
        }

        /** False: there are too many STEPS. */
        static boolean join(Patch p, Patch q, Patch out) {
            out.empty();
            for (int i = 0; i < p.size(); i++) {
                if (!joinFirst(p.at(i), q, out)) {
                    return false;
                }
            }
            for (int i = 0; i < q.size(); i++) {
                if (!isJoined(q.at(i), p) && !keepCopy(q.at(i), out)) {
                    return false;
                }
            }
            return true;
        }

        private static int ruleBrokenBy(Step step, Patch p, Patch q) {
            if (step.hasSource()) {
                int before = p.findTarget(step.from);
                if (before == NOT_FOUND && p.findSource(step.from) != NOT_FOUND) {
                    return 1;
                }
                if (before != NOT_FOUND && !step.goesOnFrom(p.at(before))) {
                    return 2;
                }
            }
            if (step.hasTarget() && p.findTarget(step.path) != NOT_FOUND
                    && q.findSource(step.path) == NOT_FOUND) {
                return 3;
            }
            return FITS;
        }

        private static boolean joinFirst(Step first, Patch q, Patch out) {
            if (first.hasTarget()) {
                int next = q.findSource(first.path);
                if (next == NOT_FOUND) {
                    return keepCopy(first, out);
                }
                return !out.blank().joinOf(first, q.at(next)) || out.keepBlank();
            }
            int anew = q.findTarget(first.path);
            if (anew == NOT_FOUND || q.at(anew).sort != ADD) {
                return keepCopy(first, out);
            }
            out.blank().changeOf(first, q.at(anew));
            return out.keepBlank();
        }

        private static boolean isJoined(Step second, Patch p) {
            if (second.hasSource()) {
                return p.findTarget(second.from) != NOT_FOUND;
            }
            int dropped = p.findSource(second.path);
            return dropped != NOT_FOUND && p.at(dropped).sort == DROP;
        }

        private static boolean keepCopy(Step step, Patch out) {
            out.blank().copyOf(step);
            return out.keepBlank();
        }
    }

    /** A LIST on THE DISK: PATHS, each with its SLOT. */
    private static final class Listing {
        private final Bytes[] paths;
        private final int[] slots;
        private int size;

        Listing() {
            paths = new Bytes[MOST_FILES];
            for (int i = 0; i < MOST_FILES; i++) {
                paths[i] = new Bytes(PATH_ROOM);
            }
            slots = new int[MOST_FILES];
            size = 0;
        }

        int size() {
            return size;
        }

        void becomeOf(Tree tree, int[] chosen) {
            size = Math.min(tree.size(), Math.min(chosen.length, MOST_FILES));
            for (int i = 0; i < size; i++) {
                paths[i].copyOf(tree.pathAt(i));
                slots[i] = chosen[i];
            }
        }

        int slotOf(Bytes path) {
            for (int i = 0; i < size; i++) {
                if (paths[i].equalTo(path)) {
                    return slots[i];
                }
            }
            return NOT_FOUND;
        }

        boolean uses(int s) {
            for (int i = 0; i < size; i++) {
                if (slots[i] == s) {
                    return true;
                }
            }
            return false;
        }
    }

    private static final class Disk {
        private final Bytes[] contents;
        private final boolean[] written;
        private final Listing[] lists;
        private final int[] chosen;
        private int counting;
        private int powerLeft;
        private int writings;
        private boolean down;

        Disk() {
            contents = new Bytes[SLOTS];
            for (int s = 0; s < SLOTS; s++) {
                contents[s] = new Bytes(CONTENT_ROOM);
            }
            written = new boolean[SLOTS];
            lists = new Listing[2];
            lists[0] = new Listing();
            lists[1] = new Listing();
            chosen = new int[MOST_FILES];
            counting = 0;
            powerLeft = FOR_EVER;
            writings = 0;
            down = false;
        }

        int counting() {
            return counting;
        }

        int writings() {
            return writings;
        }

        boolean isDown() {
            return down;
        }

        int listed() {
            return lists[counting].size();
        }

        int setPower(int n) {
            if (down) {
                return DOWN;
            }
            powerLeft = n;
            return 1;
        }

        /** How many WRITINGS; DOWN: it is, or comes to be. */
        int write(Tree tree) {
            if (down) {
                return DOWN;
            }
            int before = writings;
            for (int i = 0; i < tree.size(); i++) {
                chosen[i] = slotHolding(tree.pathAt(i), tree.contentAt(i));
                if (chosen[i] == NOT_FOUND) {
                    chosen[i] = leastFree(i);
                    if (!writeSlot(chosen[i], tree.contentAt(i))) {
                        return DOWN;
                    }
                }
            }
            if (!spendWriting()) {
                return DOWN;
            }
            lists[1 - counting].becomeOf(tree, chosen);
            if (!spendWriting()) {
                return DOWN;
            }
            counting = 1 - counting;
            return writings - before;
        }

        /** What counts comes into the TREE, and POWER is for ever. */
        void read(Tree out) {
            Listing list = lists[counting];
            out.empty();
            for (int i = 0; i < list.size(); i++) {
                if (isSlot(list.slots[i])) {
                    out.take(list.paths[i], contents[list.slots[i]]);
                }
            }
            powerLeft = FOR_EVER;
            down = false;
        }

        int tellSlot(int s, int what) {
            if (!isSlot(s)) {
                return BAD;
            }
            switch (what) {
                case 0:
                    return written[s] ? contents[s].size() : NONE;
                case 1:
                    return written[s] ? contents[s].sum() : NONE;
                case 2:
                    return lists[counting].uses(s) ? 1 : 0;
                default:
                    return BAD;
            }
        }

        private boolean isSlot(int s) {
            return s >= 0 && s < SLOTS;
        }

        private int slotHolding(Bytes path, Bytes content) {
            int s = lists[counting].slotOf(path);
            return isSlot(s) && contents[s].equalTo(content) ? s : NOT_FOUND;
        }

        /** Ten rows of the LIST and ten FILES now leave ten SLOTS free at least. */
        private int leastFree(int taken) {
            int s = 0;
            while (s < SLOTS && (lists[counting].uses(s) || isChosen(s, taken))) {
                s++;
            }
            return s;
        }

        private boolean isChosen(int s, int taken) {
            for (int i = 0; i < taken; i++) {
                if (chosen[i] == s) {
                    return true;
                }
            }
            return false;
        }

        private boolean writeSlot(int s, Bytes content) {
            if (!spendWriting()) {
                return false;
            }
            if (isSlot(s)) {
                contents[s].copyOf(content);
                written[s] = true;
            }
            return true;
        }

        /** Whether POWER lasts for one WRITING more; if not, all is DOWN. */
        private boolean spendWriting() {
            if (powerLeft == 0) {
                down = true;
                return false;
            }
            if (powerLeft > 0) {
                powerLeft--;
            }
            writings++;
            return true;
        }
    }
}
