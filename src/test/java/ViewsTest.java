/** Promises 10 to 16: what there is. */
public final class ViewsTest {
    private static final Due DUE = new Due();
    private static final int LOW = Integer.MIN_VALUE;
    private static final int HIGH = Integer.MAX_VALUE;

    public static void main(String[] args) {
        at();
        suspects();
        couldBeTheTouch();
        doubt();
        twoTouchesAtOnce();
        manySuspects();
        row();
        ofTouch();
        reading();
        ofNet();
        count();
        mean();
        faintAndHot();
        viewsChangeNothing();
        DUE.end();
    }

    /** The board of the first run of the shared tests. */
    private static Counted board() {
        Counted x = new Counted();
        Due.carryOut(x, "t1a0a1a2a3;t2b0b1b2b3;f12", 9);
        return x;
    }

    private static void at() {
        Counted x = board();
        x.touch(1, 1, 1);
        x.warm(2);
        for (int off : new int[] {-1, 8, LOW, HIGH}) {
            DUE.is("at off row", x.at(off, 0, 0), WarmProbes.NO_SUCH);
            DUE.is("at off column", x.at(0, off, 9), WarmProbes.NO_SUCH);
        }
        for (int what : new int[] {-1, 7, LOW, HIGH}) {
            DUE.is("at what", x.at(0, 0, what), WarmProbes.BAD_VALUE);
        }
        DUE.is("net", x.at(1, 1, 0), 2);
        DUE.is("no net", x.at(1, 2, 0), 0);
        DUE.isWarmth("warmth", x.at(1, 1, 1), (20.0f - 3.0f - 3.0f - 3.0f - 3.0f) * 95.0f / 100.0f + 20.0f);
        DUE.is("read", x.at(1, 1, 2), 276);
        DUE.is("read of a place without a track", x.at(1, 2, 2), 28);
        DUE.is("read is no reading", x.count(3), 0);
        DUE.is("touch", x.at(1, 1, 6), 0);
        DUE.is("no touch", x.at(1, 2, 6), WarmProbes.NONE);
    }

    private static void suspects() {
        Counted x = new Counted();
        Due.carryOut(x, "t1a0b0;t2c0;t3b1;t4h1;t5a2;f13;f45", 8);
        DUE.is("a neighbour with the own net, or none", x.at(0, 0, 3), 0);
        DUE.is("a fed pair below", x.at(0, 1, 3), 1);
        DUE.is("and above", x.at(1, 1, 3), 1);
        DUE.is("not fed", x.at(0, 2, 3), 0);
        DUE.is("not over the edge of a row", x.at(1, 7, 3), 0);
        DUE.is("not over the edge of the next", x.at(2, 0, 3), 0);
        DUE.is("no track", x.at(1, 0, 3), 0);
        x.feed(3, 1);
        DUE.is("not fed any more", x.at(0, 1, 3), 0);
    }

    private static void couldBeTheTouch() {
        Counted x = board();
        DUE.is("no readings: each suspect place", x.count(6), 8);
        DUE.is("no readings: not another place", x.at(1, 2, 4), 0);
        x.touch(1, 1, 1);
        x.warm(2);
        x.probe(1, 0);
        DUE.is("above", x.at(0, 0, 4), 1);
        DUE.is("below", x.at(2, 0, 4), 1);
        DUE.is("beside", x.at(1, 1, 4), 1);
        DUE.is("the place itself", x.at(1, 0, 4), 0);
        DUE.is("far", x.at(3, 1, 4), 0);
        x.warm(10);
        DUE.is("by the steps ahead of the reading, not now", x.count(6), 3);
        DUE.is("by the touch", x.probe(3, 3), 11);
        DUE.is("by the place above", x.wouldRead(3, 3, 0, 0), 1);
        DUE.is("all readings count", x.at(0, 0, 4), 0);
        DUE.is("the touch", x.at(1, 1, 4), 1);
        x.probe(1, 1);
        DUE.is("only the touch", x.count(6), 1);
        x.mend(0);
        DUE.is("a new run has no readings", x.count(6), 8);
        x.warm(2);
        x.probe(1, 0);
        DUE.is("what is not live makes nothing", x.at(1, 1, 4), 0);
        DUE.is("those that are too far", x.count(6), 4);
    }

    /** A reading that is wrong by DOUBT still fits, by one more it does not. */
    private static void doubt() {
        Counted x = board();
        x.touch(0, 0, 2);
        x.warm(2);
        DUE.is("in the corner", x.probe(0, 0), 333);
        DUE.is("at the edge by a touch there", x.wouldRead(1, 0, 1, 0), 304);
        DUE.is("here by the neighbour", x.wouldRead(0, 0, 1, 0), 28);
        x.set(WarmProbes.DOUBT, 99);
        DUE.is("far off", x.at(1, 0, 4), 0);
        DUE.is("no new run", x.count(3), 1);
        x.cool();
        x.warm(1);
        x.probe(0, 1);
        x.set(WarmProbes.DOUBT, 0);
        DUE.is("0 was read, 200 by the place", x.at(0, 1, 4), 0);
        DUE.is("0 was read, 0 by others", x.at(3, 1, 4), 1);
        x.set(WarmProbes.POWER, 9);
        x.warm(1);
        x.probe(0, 1);
        x.set(WarmProbes.DOUBT, 89);
        DUE.is("90 differs from 0 by more than 89", x.at(0, 1, 4), 0);
        x.set(WarmProbes.DOUBT, 90);
        DUE.is("90 differs from 0 by 90", x.at(0, 1, 4), 1);
        x.cool();
        x.warm(1);
        x.probe(0, 0);
        x.set(WarmProbes.DOUBT, 89);
        DUE.is("0 differs from 90 by more than 89", x.at(0, 1, 4), 0);
        x.set(WarmProbes.DOUBT, 90);
        DUE.is("0 differs from 90 by 90", x.at(0, 1, 4), 1);
    }

    private static void twoTouchesAtOnce() {
        Counted x = board();
        DUE.is("no readings: each two of 8", x.count(7), 28);
        DUE.is("no readings: a suspect place", x.at(3, 1, 5), 1);
        DUE.is("no readings: another place", x.at(4, 1, 5), 0);
        x.touch(1, 1, 1);
        x.touch(3, 1, 1);
        x.warm(5);
        x.probe(1, 1);
        DUE.is("one reading, one place alone", x.count(6), 0);
        x.probe(3, 1);
        DUE.is("one pair", x.count(7), 1);
        for (int place = 0; place < 64; place++) {
            DUE.is("one of two " + place, x.at(place / 8, place % 8, 5), place == 9 || place == 25 ? 1 : 0);
        }
        Counted alone = new Counted();
        Due.carryOut(alone, "t1a0;t2b0;f12;sa0=2", 4);
        DUE.is("two places are one pair", alone.count(7), 1);
        alone.warm(1);
        alone.probe(0, 0);
        DUE.is("200 by one and 0 by the other", alone.count(7), 1);
        alone.probe(0, 1);
        DUE.is("0 at the second place", alone.count(7), 0);
        DUE.is("the first alone", alone.row(0, 2), 1);
    }

    /** Every place suspect, and settings that change: what was made by others must not be looked at. */
    private static void manySuspects() {
        Counted x = new Counted();
        PlainModel model = new PlainModel();
        for (int place = 0; place < 64; place++) {
            int net = 1 + (place / 8 + place % 8) % 2;
            DUE.is("track", x.track(place / 8, place % 8, net), model.track(place / 8, place % 8, net));
        }
        DUE.is("feed", x.feed(1, 2), model.feed(1, 2));
        DUE.is("all places", x.count(5), 64);
        DUE.is("all pairs", x.count(7), 64 * 63 / 2);
        DUE.is("touch", x.touch(3, 4, 1), model.touch(3, 4, 1));
        for (int i = 0; i < 4; i++) {
            DUE.is("set", x.set(i % 3, 10 + 7 * (i / 3)), model.set(i % 3, 10 + 7 * (i / 3)));
            DUE.is("warm", x.warm(6), model.warm(6));
            DUE.is("probe", x.probe(2, 2), model.probe(2, 2));
            DUE.is("pairs", x.count(7), model.count(7));
            DUE.is("best", x.bestProbe(0), model.bestProbe(0));
            DUE.is("unlike", x.bestProbe(1), model.bestProbe(1));
            DUE.is("warm", x.warm(3), model.warm(3));
            DUE.is("probe", x.probe(5, 5), model.probe(5, 5));
            DUE.is("candidates", x.count(6), model.count(6));
            DUE.is("undo", x.undo(), model.undo());
            DUE.is("pairs again", x.count(7), model.count(7));
        }
        DUE.is("warm 50", x.warm(50), model.warm(50));
        DUE.is("warm to 100", x.warm(50 - 6), model.warm(50 - 6));
        DUE.is("probe at 100", x.probe(7, 7), model.probe(7, 7));
        DUE.is("would read at 100", x.wouldRead(0, 0, 7, 7), model.wouldRead(0, 0, 7, 7));
        DUE.is("candidates at 100", x.count(6), model.count(6));
    }

    private static void row() {
        Counted x = new Counted();
        Due.carryOut(x, "t1a7c7;t2b7g7h7;t3h6;f12", 7);
        for (int off : new int[] {-1, 8, LOW, HIGH}) {
            DUE.is("row off", x.row(off, 0), WarmProbes.NO_SUCH);
            DUE.is("row off and what", x.row(off, -1), WarmProbes.NO_SUCH);
        }
        for (int what : new int[] {-1, 3, LOW, HIGH}) {
            DUE.is("row what", x.row(0, what), WarmProbes.BAD_VALUE);
        }
        DUE.is("tracks", x.row(7, 0), 1 | 2 | 4 | 64 | 128);
        DUE.is("tracks above", x.row(6, 0), 128);
        DUE.is("no tracks", x.row(0, 0), 0);
        DUE.is("suspects", x.row(7, 1), 7);
        DUE.is("no suspects", x.row(6, 1), 0);
        DUE.is("candidates", x.row(7, 2), 7);
        x.touch(7, 0, 2);
        x.warm(1);
        x.probe(7, 0);
        DUE.is("candidates by a reading", x.row(7, 2), 1);
        DUE.is("suspects still", x.row(7, 1), 7);
    }

    private static void ofTouch() {
        Counted x = new Counted();
        DUE.is("no touch", x.ofTouch(0, 0), WarmProbes.NO_SUCH);
        Due.carryOut(x, "t1a0;t2b0;t3h7;t4h6;f34;sb0=1;sh6=3", 7);
        for (int off : new int[] {-1, 2, LOW, HIGH}) {
            DUE.is("no such touch", x.ofTouch(off, 0), WarmProbes.NO_SUCH);
            DUE.is("no such touch and what", x.ofTouch(off, 4), WarmProbes.NO_SUCH);
        }
        for (int what : new int[] {-1, 4, LOW, HIGH}) {
            DUE.is("what", x.ofTouch(0, what), WarmProbes.BAD_VALUE);
        }
        int[][] want = {{1, 2, 1, 0}, {55, 4, 3, 1}};
        for (int touch = 0; touch < 2; touch++) {
            for (int what = 0; what < 4; what++) {
                DUE.is("touch " + touch + " " + what, x.ofTouch(touch, what), want[touch][what]);
            }
        }
        x.feed(4, 3);
        DUE.is("not live any more", x.ofTouch(1, 3), 0);
    }

    private static void reading() {
        Counted x = board();
        DUE.is("no reading", x.reading(0, 0), WarmProbes.NO_SUCH);
        x.touch(0, 0, 2);
        x.probe(7, 6);
        x.warm(2);
        x.probe(0, 0);
        for (int off : new int[] {-1, 2, 8, LOW, HIGH}) {
            DUE.is("no such reading", x.reading(off, 0), WarmProbes.NO_SUCH);
            DUE.is("no such reading and what", x.reading(off, 3), WarmProbes.NO_SUCH);
        }
        for (int what : new int[] {-1, 3, LOW, HIGH}) {
            DUE.is("what", x.reading(0, what), WarmProbes.BAD_VALUE);
        }
        x.warm(3);
        int[][] want = {{62, 0, 0}, {0, 333, 2}};
        for (int reading = 0; reading < 2; reading++) {
            for (int what = 0; what < 3; what++) {
                DUE.is("reading " + reading + " " + what, x.reading(reading, what), want[reading][what]);
            }
        }
    }

    private static void ofNet() {
        Counted x = board();
        x.feed(2, 7);
        x.touch(0, 0, 2);
        x.warm(3);
        for (int off : new int[] {-1, 0, 8, LOW, HIGH}) {
            DUE.is("no such net", x.ofNet(off, 0), WarmProbes.NO_SUCH);
            DUE.is("no such net and what", x.ofNet(off, 3), WarmProbes.NO_SUCH);
        }
        for (int what : new int[] {-1, 3, LOW, HIGH}) {
            DUE.is("what", x.ofNet(1, what), WarmProbes.BAD_VALUE);
        }
        DUE.is("places", x.ofNet(1, 0), 4);
        DUE.is("no places", x.ofNet(7, 0), 0);
        DUE.is("pairs", x.ofNet(2, 1), 1 << 1 | 1 << 7);
        DUE.is("no pairs", x.ofNet(3, 1), 0);
        float sum = 0.0f;
        for (int row = 0; row < 4; row++) {
            sum += Float.intBitsToFloat(x.at(row, 1, 1));
        }
        DUE.isWarmth("warmth", x.ofNet(2, 2), sum);
        DUE.isWarmth("no warmth", x.ofNet(7, 2), 0.0f);
    }

    private static void count() {
        Counted x = board();
        for (int what : new int[] {-1, 15, LOW, HIGH}) {
            DUE.is("count what", x.count(what), WarmProbes.BAD_VALUE);
        }
        DUE.is("the warmest of a cold board", x.count(8), 0);
        Due.carryOut(x, "t3h7;t4g7;sh7=4;sb2=1;sa1=2", 5);
        x.warm(2);
        x.probe(0, 7);
        Due.put(x, "abc");
        int[] want = {2, 3, 2, 1, 10, 8, 8, 28, 8, 15, 5, 20, 3, 3, 4};
        for (int what = 0; what < want.length; what++) {
            DUE.is("count " + what, x.count(what), want[what]);
        }
        Due.carryOut(x, "m2;w4", 2);
        DUE.is("the warmest", x.count(8), 17);
        Counted even = board();
        Due.carryOut(even, "sb1=1;sb2=1;w1", 3);
        DUE.is("the first of the warmest", even.count(8), 9);
    }

    private static void mean() {
        Counted x = board();
        DUE.is("cold", x.mean(), 0);
        Due.carryOut(x, "sa0=2;w7", 2);
        double sum = 0.0;
        for (int place = 0; place < 64; place++) {
            sum += (double) Float.intBitsToFloat(x.at(place / 8, place % 8, 1));
        }
        DUE.is("warm", x.mean(), Double.doubleToLongBits(sum / 64.0));
        Due.carryOut(x, "m0;w1", 2);
        DUE.is("cold again", x.mean(), 0);
    }

    /** The least warmth that there can be, and the most, against the bits that the Java library tells. */
    private static void faintAndHot() {
        int[][] settings = {{1, 50, 1}, {24, 0, 99}, {0, 0, 99}, {24, 50, 1}, {1, 0, 1}};
        for (int[] values : settings) {
            Counted x = new Counted();
            PlainModel model = new PlainModel();
            for (int i = 0; i < 3; i++) {
                x.set(i, values[i]);
                model.set(i, values[i]);
                x.track(0, i, 1);
                model.track(0, i, 1);
                x.track(1, i, 2);
                model.track(1, i, 2);
            }
            x.feed(1, 2);
            model.feed(1, 2);
            for (int i = 0; i < (values[2] == 1 ? 1 : 3); i++) {
                x.touch(0, i, 2);
                model.touch(0, i, 2);
            }
            for (int steps : new int[] {1, 14, 35, 50}) {
                x.warm(steps);
                model.warm(steps);
                for (int place = 0; place < 64; place += steps == 50 ? 1 : 7) {
                    int row = place / 8;
                    int column = place % 8;
                    DUE.is("warmth of " + place, x.at(row, column, 1), model.at(row, column, 1));
                    DUE.is("read of " + place, x.at(row, column, 2), model.at(row, column, 2));
                }
                DUE.is("warmth of a net", x.ofNet(1, 2), model.ofNet(1, 2));
                DUE.is("mean", x.mean(), model.mean());
            }
        }
    }

    private static void viewsChangeNothing() {
        Counted x = board();
        Due.carryOut(x, "sa0=2;w7;pb0", 3);
        long before = x.mean();
        for (int what = -1; what < 16; what++) {
            x.at(0, 0, what);
            x.row(0, what);
            x.ofTouch(0, what);
            x.reading(0, what);
            x.ofNet(1, what);
            x.count(what);
            x.bestProbe(what);
            x.readsIn(5, 5, 10);
            x.wouldRead(5, 5, 0, 0);
        }
        DUE.is("warmth", x.mean(), before);
        DUE.is("steps", x.count(0), 7);
        DUE.is("readings", x.count(3), 1);
        DUE.is("changes", x.count(14), 2);
    }
}
