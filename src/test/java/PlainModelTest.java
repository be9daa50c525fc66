import java.util.Random;

/** Runs of random calls, always the same ones, answered by the program and by the plain model. */
public final class PlainModelTest {
    private static final int RUNS = 600;
    /** With what comes after them there are fewer than 512, the most for which the document tells the answers. */
    private static final int CALLS_OF_A_RUN = 380;

    private final Due due = new Due();
    private Random random;
    private Counted x;
    private PlainModel model;
    private String name;
    private int calls;
    /** Fewer nets and places than there are make more touches and suspect places. */
    private int nets;
    private int side;
    private int wild;

    public static void main(String[] args) {
        new PlainModelTest().all();
    }

    private void all() {
        for (int run = 0; run < RUNS; run++) {
            random = new Random(run);
            x = new Counted();
            model = new PlainModel();
            calls = 0;
            nets = 2 + random.nextInt(6);
            side = 2 + random.nextInt(run % 10 == 0 ? 7 : 4);
            wild = 5 + random.nextInt(40);
            layBoard();
            while (calls < CALLS_OF_A_RUN) {
                name = "run " + run + ", call " + calls + ": ";
                if (random.nextInt(12) == 0) {
                    search();
                } else {
                    one();
                }
            }
            lookAtAll();
        }
        due.end();
    }

    private void layBoard() {
        for (int row = 0; row < side; row++) {
            for (int column = 0; column < side; column++) {
                int net = random.nextInt(nets + 1);
                name = "first ";
                same("track", x.track(row, column, net), model.track(row, column, net));
            }
        }
        for (int net = 2; net <= nets; net++) {
            same("feed", x.feed(1, net), model.feed(1, net));
        }
    }

    private void same(String call, long got, long want) {
        calls++;
        due.is(name + call, got, want);
    }

    private int number(int least, int most) {
        if (random.nextInt(wild) == 0) {
            int[] edges = {least - 1, most + 1, Integer.MIN_VALUE, Integer.MAX_VALUE, -1, 0};
            return edges[random.nextInt(edges.length)];
        }
        return least + random.nextInt(most - least + 1);
    }

    private int place() {
        return number(0, side - 1);
    }

    private int net() {
        return number(1, nets);
    }

    private void one() {
        switch (random.nextInt(8)) {
            case 0: change(); break;
            case 1: case 2: run(); break;
            case 3: text(); break;
            case 4: past(); break;
            default: look();
        }
    }

    /** Touches that are sought by probes while they get warm: random calls alone leave most boards cold. */
    private void search() {
        for (int i = random.nextInt(40); i >= 0; i--) {
            int a = random.nextInt(side);
            int b = random.nextInt(side);
            int n = 1 + random.nextInt(nets);
            same("touch " + a + " " + b + " " + n, x.touch(a, b, n), model.touch(a, b, n));
        }
        for (int i = 1 + random.nextInt(4); i > 0; i--) {
            int steps = 1 + random.nextInt(9);
            same("warm " + steps, x.warm(steps), model.warm(steps));
            int a = random.nextInt(side);
            int b = random.nextInt(side);
            same("probe " + a + " " + b, x.probe(a, b), model.probe(a, b));
            for (int k = random.nextInt(8); k > 0; k--) {
                look();
            }
            if (random.nextInt(5) == 0) {
                same("undo", x.undo(), model.undo());
            }
            if (random.nextInt(5) == 0) {
                int doubt = random.nextInt(100);
                same("set 3 " + doubt, x.set(3, doubt), model.set(3, doubt));
            }
        }
    }

    private void change() {
        int a = place();
        int b = place();
        int n = net();
        int m = net();
        switch (random.nextInt(7)) {
            case 0: {
                int setting = number(0, 3);
                int value = random.nextInt(3) == 0 ? number(0, 100) : number(0, 24);
                same("set " + setting + " " + value, x.set(setting, value), model.set(setting, value));
                break;
            }
            case 1: {
                int net = number(0, nets);
                same("track " + a + " " + b + " " + net, x.track(a, b, net), model.track(a, b, net));
                break;
            }
            case 2: case 3: case 4:
                same("touch " + a + " " + b + " " + n, x.touch(a, b, n), model.touch(a, b, n));
                break;
            case 5: {
                int touch = number(0, 2);
                same("mend " + touch, x.mend(touch), model.mend(touch));
                break;
            }
            default:
                same("feed " + n + " " + m, x.feed(n, m), model.feed(n, m));
        }
    }

    private void run() {
        int a = place();
        int b = place();
        switch (random.nextInt(12)) {
            case 0:
                same("cool", x.cool(), model.cool());
                break;
            case 1: case 2: case 3: case 4: case 5: {
                int steps = random.nextInt(6) == 0 ? number(1, 50) : number(1, 7);
                same("warm " + steps, x.warm(steps), model.warm(steps));
                break;
            }
            default:
                same("probe " + a + " " + b, x.probe(a, b), model.probe(a, b));
        }
    }

    private void look() {
        int a = place();
        int b = place();
        switch (random.nextInt(10)) {
            case 0: case 1: case 2: {
                int what = number(0, 6);
                same("at " + a + " " + b + " " + what, x.at(a, b, what), model.at(a, b, what));
                break;
            }
            case 3: {
                int what = number(0, 2);
                same("row " + a + " " + what, x.row(a, what), model.row(a, what));
                break;
            }
            case 4: {
                int touch = number(0, 2);
                int what = number(0, 3);
                same("ofTouch " + touch + " " + what, x.ofTouch(touch, what), model.ofTouch(touch, what));
                break;
            }
            case 5: {
                int reading = number(0, 7);
                int what = number(0, 2);
                same("reading " + reading + " " + what, x.reading(reading, what), model.reading(reading, what));
                break;
            }
            case 6: {
                int net = net();
                int what = number(0, 2);
                same("ofNet " + net + " " + what, x.ofNet(net, what), model.ofNet(net, what));
                break;
            }
            case 7: {
                int what = random.nextInt(3) == 0 ? number(5, 8) : number(0, 14);
                same("count " + what, x.count(what), model.count(what));
                break;
            }
            case 8:
                same("mean", x.mean(), model.mean());
                break;
            default:
                whatIf();
        }
    }

    private void whatIf() {
        int a = place();
        int b = place();
        switch (random.nextInt(3)) {
            case 0: {
                int what = number(0, 1);
                same("bestProbe " + what, x.bestProbe(what), model.bestProbe(what));
                break;
            }
            case 1: {
                int most = new int[] {9, 99, 500, 9999}[random.nextInt(4)];
                int read = number(1, most);
                same("readsIn " + a + " " + b + " " + read, x.readsIn(a, b, read), model.readsIn(a, b, read));
                break;
            }
            default: {
                int c = place();
                int d = place();
                same("wouldRead " + a + " " + b + " " + c + " " + d,
                    x.wouldRead(a, b, c, d), model.wouldRead(a, b, c, d));
            }
        }
    }

    private void text() {
        switch (random.nextInt(8)) {
            case 0:
                same("wipe", x.wipe(), model.wipe());
                break;
            case 1:
                putWhole(String.valueOf((char) (33 + random.nextInt(94))));
                break;
            case 2: {
                long characters = random.nextBoolean() ? random.nextLong() : random.nextInt(1 << 17);
                same("put " + characters, x.put(characters), model.put(characters));
                break;
            }
            case 3:
                same("carryOut", x.carryOut(), model.carryOut());
                break;
            case 4:
                same("wipe", x.wipe(), model.wipe());
                putWhole(order());
                same("fault", x.fault(), model.fault());
                same("carryOut", x.carryOut(), model.carryOut());
                break;
            default:
                putWhole((model.count(13) == 0 ? "" : ";") + order());
        }
        same("fault", x.fault(), model.fault());
    }

    private void putWhole(String text) {
        for (int i = 0; i < text.length(); i += 8) {
            long characters = Due.characters(text.substring(i, Math.min(i + 8, text.length())));
            same("put " + text, x.put(characters), model.put(characters));
        }
    }

    private String order() {
        StringBuilder order = new StringBuilder();
        switch (random.nextInt(6)) {
            case 0:
                order.append('t').append(random.nextInt(nets + 1));
                for (int i = random.nextInt(6); i >= 0; i--) {
                    order.append(written());
                }
                break;
            case 1: order.append('f').append(1 + random.nextInt(nets)).append(1 + random.nextInt(nets)); break;
            case 2: order.append('s').append(written()).append('=').append(1 + random.nextInt(nets)); break;
            case 3: order.append('m').append(random.nextInt(3)); break;
            case 4: order.append('w').append(random.nextInt(4) == 0 ? random.nextInt(120) : random.nextInt(9)); break;
            default: order.append('p').append(written());
        }
        if (random.nextInt(6) == 0) {
            String marks = "tfsmwpabch0129=;:i~/";
            order.setCharAt(random.nextInt(order.length()), marks.charAt(random.nextInt(marks.length())));
        }
        if (random.nextInt(8) == 0) {
            order.setLength(random.nextInt(order.length()));
        }
        return order.toString();
    }

    private String written() {
        int row = random.nextInt(wild) == 0 ? random.nextInt(10) : random.nextInt(side);
        return new StringBuilder().append((char) ('a' + random.nextInt(side))).append(row).toString();
    }

    private void past() {
        int slot = number(0, 1);
        switch (random.nextInt(4)) {
            case 0: same("save " + slot, x.save(slot), model.save(slot)); break;
            case 1: same("restore " + slot, x.restore(slot), model.restore(slot)); break;
            default: same("undo", x.undo(), model.undo());
        }
    }

    private void lookAtAll() {
        name = "at the end ";
        for (int row = 0; row < 8; row++) {
            for (int what = 0; what <= 2; what++) {
                same("row " + row + " " + what, x.row(row, what), model.row(row, what));
            }
        }
        for (int what = 0; what <= 14; what++) {
            same("count " + what, x.count(what), model.count(what));
        }
    }
}
