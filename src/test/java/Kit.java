import java.util.ArrayList;
import java.util.List;

/** Puts texts into a PatchChains and reads them out of it, through its public face alone. */
final class Kit {
    private Kit() { }

    /** Feeds all bytes of a text, at most 80 with what the tape has. */
    static void feed(PatchChains x, String text) {
        for (int start = 0; start < text.length(); start += 20) {
            int[] numbers = new int[5];
            int n = Math.min(20, text.length() - start);
            for (int k = 0; k < 20; k++) {
                int value = k < n ? text.charAt(start + k) : 0;
                numbers[k / 4] = numbers[k / 4] << 8 | value;
            }
            x.feed(numbers[0], numbers[1], numbers[2], numbers[3], numbers[4]);
            x.end(n);
        }
    }

    static int path(PatchChains x, String path) {
        feed(x, path);
        return x.path();
    }

    static int put(PatchChains x, int t, String path, String content) {
        path(x, path);
        feed(x, content);
        return x.put(t);
    }

    static int drop(PatchChains x, int t, String path) {
        path(x, path);
        return x.drop(t);
    }

    /** A new tree of paths, each with its content behind it. */
    static int tree(PatchChains x, String... pathsAndContents) {
        int t = x.tree(-1);
        for (int i = 0; i + 1 < pathsAndContents.length; i += 2) {
            put(x, t, pathsAndContents[i], pathsAndContents[i + 1]);
        }
        return t;
    }

    static String content(PatchChains x, int t, int i) {
        StringBuilder text = new StringBuilder();
        for (int k = 0, n = x.file(t, i, 1); k < n; k++) {
            text.append((char) x.byteOf(t, i, 0, k));
        }
        return text.toString();
    }

    /** The files as path=content, with a space between. */
    static String files(PatchChains x, int t) {
        List<String> files = new ArrayList<>();
        for (int i = 0, n = x.file(t, 0, 3); i < n; i++) {
            StringBuilder path = new StringBuilder();
            for (int k = 0, bytes = x.file(t, i, 0); k < bytes; k++) {
                path.append((char) x.byteOf(t, i, 1, k));
            }
            files.add(path + "=" + content(x, t, i));
        }
        return String.join(" ", files);
    }

    /** Copies as place+length, what is told between quotes. */
    static String delta(PatchChains x, int p, int i, int side) {
        List<String> pieces = new ArrayList<>();
        for (int j = 0, all = x.step(p, i, 7 + side); j < all; j++) {
            int place = x.piece(p, i, side, j, -1);
            int n = x.piece(p, i, side, j, -2);
            if (place >= 0) {
                pieces.add(place + "+" + n);
            } else {
                StringBuilder told = new StringBuilder();
                for (int k = 0; k < n; k++) {
                    told.append((char) x.piece(p, i, side, j, k));
                }
                pieces.add("'" + told + "'");
            }
        }
        return "[" + String.join(" ", pieces) + "]";
    }

    static String stepPath(PatchChains x, int p, int i, int side) {
        StringBuilder path = new StringBuilder();
        for (int k = 0, n = x.step(p, i, 5 + side); k < n; k++) {
            path.append((char) x.stepByte(p, i, side, k));
        }
        return path.toString();
    }

    /** One step as: sort path<from lengths sums delta back. */
    static String step(PatchChains x, int p, int i) {
        String[] sorts = {"ADD", "DROP", "CHANGE", "MOVE", "MOVE+CHANGE"};
        return sorts[x.step(p, i, 0)] + " " + stepPath(x, p, i, 0) + "<" + stepPath(x, p, i, 1)
            + " " + delta(x, p, i, 0) + " " + delta(x, p, i, 1);
    }

    static String steps(PatchChains x, int p) {
        List<String> steps = new ArrayList<>();
        for (int i = 0, n = x.step(p, 0, 9); i < n; i++) {
            steps.add(step(x, p, i));
        }
        return String.join("; ", steps);
    }

    /** Conflicts as step:rule. */
    static String conflicts(PatchChains x) {
        List<String> conflicts = new ArrayList<>();
        for (int i = 0, n = x.conflict(-1, 0); i < n; i++) {
            conflicts.add(x.conflict(i, 0) + ":" + x.conflict(i, 1));
        }
        return String.join(" ", conflicts);
    }

    /** Counts, files, steps, conflicts and slots of the whole object, to tell whether a call has changed any of them. */
    static String state(PatchChains x) {
        StringBuilder state = new StringBuilder();
        for (int what = 0; what <= 7; what++) {
            state.append(x.count(what)).append(' ');
        }
        for (int t = 0, n = x.count(0); t < n; t++) {
            state.append("{").append(files(x, t)).append("} ");
        }
        for (int p = 0, n = x.count(1); p < n; p++) {
            state.append("[").append(steps(x, p)).append("] ");
        }
        return state.append(conflicts(x)).append(" / ").append(slots(x)).toString();
    }

    /** The slots that were ever written, as number:sum, with a * if they are in the list that counts. */
    static String slots(PatchChains x) {
        List<String> slots = new ArrayList<>();
        for (int i = 0; i < 30; i++) {
            if (x.slot(i, 0) != PatchChains.NONE) {
                slots.add(i + ":" + x.slot(i, 1) + (x.slot(i, 2) == 1 ? "*" : ""));
            }
        }
        return String.join(" ", slots);
    }

    /** Numbers that are none of 0 .. n - 1: the nearest ones, and the farthest. */
    static int[] outside(int n) {
        return new int[] {-1, n, n + 1, -n - 1, Integer.MIN_VALUE, Integer.MAX_VALUE};
    }

    /** As many other letters, from the one named on. */
    static String letters(char first, int n) {
        StringBuilder text = new StringBuilder();
        for (int k = 0; k < n; k++) {
            text.append((char) (first + k));
        }
        return text.toString();
    }

    static int sum(String content) {
        int h = 5381;
        for (int k = 0; k < content.length(); k++) {
            h = (33 * h ^ content.charAt(k)) % 65536;
        }
        return h;
    }

    /** Two texts of two bytes that are not the same, but whose sums are, whatever comes behind them. */
    static String[] twins() {
        for (char a = '!'; a <= '~'; a++) {
            for (char b = '!'; b <= '~'; b++) {
                for (char c = '!'; c <= '~'; c++) {
                    for (char d = '!'; d <= '~'; d++) {
                        String one = "" + a + b;
                        String two = "" + c + d;
                        if (!one.equals(two) && sum(one) == sum(two)) {
                            return new String[] {one, two};
                        }
                    }
                }
            }
        }
        throw new IllegalStateException("no twins");
    }
}
