/** Promises 17 to 19: what if. */
public final class WhatIfTest {
    private static final Due DUE = new Due();
    private static final int LOW = Integer.MIN_VALUE;
    private static final int HIGH = Integer.MAX_VALUE;

    public static void main(String[] args) {
        bestProbe();
        bestProbeNone();
        readsIn();
        readsInWithin200();
        wouldRead();
        DUE.end();
    }

    private static Counted board() {
        Counted x = new Counted();
        Due.carryOut(x, "t1a0a1a2a3;t2b0b1b2b3;f12", 9);
        return x;
    }

    private static void bestProbe() {
        Counted x = board();
        for (int what : new int[] {-1, 2, LOW, HIGH}) {
            DUE.is("best what", x.bestProbe(what), WarmProbes.BAD_VALUE);
        }
        DUE.is("cold: the first place", x.bestProbe(0), 0);
        DUE.is("cold: one number", x.bestProbe(1), 1);
        x.warm(1);
        DUE.is("a step: at a suspect place", x.bestProbe(0), 0);
        DUE.is("a step: 200 or 0", x.bestProbe(1), 2);
        x.warm(3);
        int best = 0;
        int most = 0;
        for (int place = 0; place < 64; place++) {
            int unlike = unlikeReads(place);
            if (unlike > most) {
                most = unlike;
                best = place;
            }
        }
        DUE.is("the place", x.bestProbe(0), best);
        DUE.is("how many", x.bestProbe(1), most);
        DUE.is("many", most > 4 ? 1 : 0, 1);
        Counted down = new Counted();
        Due.carryOut(down, "t1h6;t2h7;f12;w1", 4);
        DUE.is("not the first place", down.bestProbe(0), 55);
        DUE.is("two numbers", down.bestProbe(1), 2);
    }

    /** On the board, behind 4 steps, when each of its places could be the touch. */
    private static int unlikeReads(int place) {
        Counted x = board();
        x.warm(4);
        java.util.TreeSet<Integer> reads = new java.util.TreeSet<>();
        for (int source = 0; source < 64; source++) {
            if (source % 8 < 2 && source < 32) {
                reads.add(x.wouldRead(place / 8, place % 8, source / 8, source % 8));
            }
        }
        return reads.size();
    }

    private static void bestProbeNone() {
        Counted x = new Counted();
        DUE.is("no place", x.bestProbe(0), WarmProbes.NONE);
        DUE.is("no place, how many", x.bestProbe(1), WarmProbes.NONE);
        DUE.is("what ahead of it", x.bestProbe(2), WarmProbes.BAD_VALUE);
        Due.carryOut(x, "t1a0;t2b0;f12;sa0=2;w1", 5);
        DUE.is("two places", x.bestProbe(0), 0);
        x.probe(0, 0);
        DUE.is("one place", x.bestProbe(0), WarmProbes.NONE);
        x.set(WarmProbes.DOUBT, 99);
        DUE.is("one place by more doubt", x.bestProbe(1), WarmProbes.NONE);
        x.set(WarmProbes.POWER, 9);
        x.warm(1);
        x.probe(0, 0);
        DUE.is("two places by much doubt", x.bestProbe(1), 2);
    }

    private static void readsIn() {
        Counted x = board();
        for (int off : new int[] {-1, 8, LOW, HIGH}) {
            DUE.is("off row", x.readsIn(off, 0, 1), WarmProbes.NO_SUCH);
            DUE.is("off column", x.readsIn(0, off, 0), WarmProbes.NO_SUCH);
        }
        for (int read : new int[] {-1, 0, 10000, LOW, HIGH}) {
            DUE.is("read", x.readsIn(7, 7, read), WarmProbes.BAD_VALUE);
        }
        DUE.is("cold for ever", x.readsIn(0, 0, 1), WarmProbes.NONE);
        x.touch(0, 0, 2);
        DUE.is("in one step", x.readsIn(0, 0, 200), 1);
        DUE.is("not in one", x.readsIn(0, 0, 201), 2);
        DUE.is("333 in two", x.readsIn(0, 0, 333), 2);
        DUE.is("not in two", x.readsIn(0, 0, 334), 3);
        DUE.is("never", x.readsIn(0, 0, 9999), WarmProbes.NONE);
        x.warm(2);
        DUE.is("now", x.readsIn(0, 0, 333), 0);
        DUE.is("next", x.readsIn(0, 0, 334), 1);
        DUE.is("steps stay", x.count(0), 2);
        x.feed(1, 2);
        DUE.is("not live", x.readsIn(0, 0, 1), WarmProbes.NONE);
    }

    /** Without spread and loss a touch reads 10 more in each step, so that each step can be counted. */
    private static void readsInWithin200() {
        Counted x = board();
        Due.carryOut(x, "sa0=2", 1);
        x.set(WarmProbes.SPREAD, 0);
        x.set(WarmProbes.LOSS, 0);
        x.set(WarmProbes.POWER, 1);
        DUE.is("in 200", x.readsIn(0, 0, 2000), 200);
        DUE.is("not in 200", x.readsIn(0, 0, 2001), WarmProbes.NONE);
        x.warm(50);
        x.warm(50);
        DUE.is("beyond the steps of a run", x.readsIn(0, 0, 3000), 200);
        DUE.is("not beyond 200", x.readsIn(0, 0, 3001), WarmProbes.NONE);
        DUE.is("now", x.readsIn(0, 0, 1000), 0);
        DUE.is("next", x.readsIn(0, 0, 1001), 1);
        x.set(WarmProbes.POWER, 99);
        DUE.is("9999", x.readsIn(0, 0, 9999), 11);
    }

    private static void wouldRead() {
        Counted x = board();
        for (int off : new int[] {-1, 8, LOW, HIGH}) {
            DUE.is("off row", x.wouldRead(off, 0, 0, 0), WarmProbes.NO_SUCH);
            DUE.is("off column", x.wouldRead(0, off, 0, 0), WarmProbes.NO_SUCH);
            DUE.is("off suspect row", x.wouldRead(0, 0, off, 0), WarmProbes.NO_SUCH);
            DUE.is("off suspect column", x.wouldRead(0, 0, 0, off), WarmProbes.NO_SUCH);
        }
        DUE.is("not suspect", x.wouldRead(0, 0, 0, 2), WarmProbes.NO_SUCH);
        DUE.is("cold", x.wouldRead(0, 0, 0, 0), 0);
        x.touch(3, 1, 1);
        x.warm(2);
        DUE.is("there", x.wouldRead(0, 0, 0, 0), 333);
        DUE.is("beside", x.wouldRead(0, 1, 0, 0), 28);
        DUE.is("the touch alone", x.wouldRead(3, 1, 0, 0), 0);
        DUE.is("by the touch itself", x.wouldRead(3, 1, 3, 1), x.at(3, 1, 2));
        x.probe(0, 0);
        DUE.is("also if it could not be the touch", x.at(0, 0, 4), 0);
        DUE.is("still", x.wouldRead(0, 0, 0, 0), 333);
        x.set(WarmProbes.POWER, 40);
        x.warm(1);
        DUE.is("by the settings of now", x.wouldRead(0, 0, 0, 0), 400);
        x.undo();
        x.undo();
        DUE.is("by the settings that were", x.wouldRead(0, 0, 0, 0), 333);
    }
}
