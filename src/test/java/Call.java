import java.util.Arrays;

/** One call of the public face, to be made on the class and on the model. */
record Call(String name, int... a) {
    int on(PatchChains x) {
        return switch (name) {
            case "feed" -> x.feed(a[0], a[1], a[2], a[3], a[4]);
            case "end" -> x.end(a[0]);
            case "path" -> x.path();
            case "tree" -> x.tree(a[0]);
            case "put" -> x.put(a[0]);
            case "drop" -> x.drop(a[0]);
            case "file" -> x.file(a[0], a[1], a[2]);
            case "byteOf" -> x.byteOf(a[0], a[1], a[2], a[3]);
            case "same" -> x.same(a[0], a[1]);
            case "clear" -> x.clear();
            case "patch" -> x.patch(a[0], a[1]);
            case "step" -> x.step(a[0], a[1], a[2]);
            case "stepByte" -> x.stepByte(a[0], a[1], a[2], a[3]);
            case "piece" -> x.piece(a[0], a[1], a[2], a[3], a[4]);
            case "apply" -> x.apply(a[0], a[1], a[2] == 1);
            case "conflict" -> x.conflict(a[0], a[1]);
            case "inverse" -> x.inverse(a[0]);
            case "chain" -> x.chain(a[0], a[1]);
            case "power" -> x.power(a[0]);
            case "install" -> x.install(a[0]);
            case "open" -> x.open();
            case "slot" -> x.slot(a[0], a[1]);
            case "count" -> x.count(a[0]);
            default -> throw new IllegalArgumentException(name);
        };
    }

    int on(Model m) {
        return switch (name) {
            case "feed" -> m.feed(a[0], a[1], a[2], a[3], a[4]);
            case "end" -> m.end(a[0]);
            case "path" -> m.path();
            case "tree" -> m.tree(a[0]);
            case "put" -> m.put(a[0]);
            case "drop" -> m.drop(a[0]);
            case "file" -> m.file(a[0], a[1], a[2]);
            case "byteOf" -> m.byteOf(a[0], a[1], a[2], a[3]);
            case "same" -> m.same(a[0], a[1]);
            case "clear" -> m.clear();
            case "patch" -> m.patch(a[0], a[1]);
            case "step" -> m.step(a[0], a[1], a[2]);
            case "stepByte" -> m.stepByte(a[0], a[1], a[2], a[3]);
            case "piece" -> m.piece(a[0], a[1], a[2], a[3], a[4]);
            case "apply" -> m.apply(a[0], a[1], a[2] == 1);
            case "conflict" -> m.conflict(a[0], a[1]);
            case "inverse" -> m.inverse(a[0]);
            case "chain" -> m.chain(a[0], a[1]);
            case "power" -> m.power(a[0]);
            case "install" -> m.install(a[0]);
            case "open" -> m.open();
            case "slot" -> m.slot(a[0], a[1]);
            case "count" -> m.count(a[0]);
            default -> throw new IllegalArgumentException(name);
        };
    }

    @Override
    public String toString() {
        return name + Arrays.toString(a);
    }
}
