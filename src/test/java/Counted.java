/** The program, with its calls counted: the document tells nothing about an object behind its 512th call. */
final class Counted {
    private static final int MOST_CALLS = 512;

    private final WarmProbes probes = new WarmProbes();
    private int calls = 0;

    private WarmProbes call() {
        calls++;
        if (calls > MOST_CALLS) {
            throw new IllegalStateException("a test makes more than " + MOST_CALLS + " calls on one object");
        }
        return probes;
    }

    int set(int setting, int value) {
        return call().set(setting, value);
    }

    int track(int row, int column, int net) {
        return call().track(row, column, net);
    }

    int touch(int row, int column, int net) {
        return call().touch(row, column, net);
    }

    int mend(int touch) {
        return call().mend(touch);
    }

    int feed(int net, int other) {
        return call().feed(net, other);
    }

    int cool() {
        return call().cool();
    }

    int warm(int steps) {
        return call().warm(steps);
    }

    int probe(int row, int column) {
        return call().probe(row, column);
    }

    int at(int row, int column, int what) {
        return call().at(row, column, what);
    }

    int row(int row, int what) {
        return call().row(row, what);
    }

    int ofTouch(int touch, int what) {
        return call().ofTouch(touch, what);
    }

    int reading(int reading, int what) {
        return call().reading(reading, what);
    }

    int ofNet(int net, int what) {
        return call().ofNet(net, what);
    }

    int count(int what) {
        return call().count(what);
    }

    long mean() {
        return call().mean();
    }

    int bestProbe(int what) {
        return call().bestProbe(what);
    }

    int readsIn(int row, int column, int read) {
        return call().readsIn(row, column, read);
    }

    int wouldRead(int row, int column, int suspectRow, int suspectColumn) {
        return call().wouldRead(row, column, suspectRow, suspectColumn);
    }

    int put(long characters) {
        return call().put(characters);
    }

    int wipe() {
        return call().wipe();
    }

    int fault() {
        return call().fault();
    }

    int carryOut() {
        return call().carryOut();
    }

    int undo() {
        return call().undo();
    }

    int save(int slot) {
        return call().save(slot);
    }

    int restore(int slot) {
        return call().restore(slot);
    }
}
