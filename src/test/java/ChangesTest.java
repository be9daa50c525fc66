/** Promises 1 to 9: a new object, and the changes of the board and of its run. */
public final class ChangesTest {
    private static final Due DUE = new Due();
    private static final int LOW = Integer.MIN_VALUE;
    private static final int HIGH = Integer.MAX_VALUE;

    public static void main(String[] args) {
        newObject();
        set();
        setBeginsRun();
        track();
        trackByTouches();
        touch();
        touchOrderOfErrors();
        mend();
        feed();
        cool();
        warm();
        warmByHand();
        warmOfTwoTouches();
        probe();
        DUE.end();
    }

    /** Nets 1 and 2, a fed pair, in columns a and b of two rows: every place is suspect. */
    private static Counted small() {
        Counted x = new Counted();
        Due.carryOut(x, "t1a0a1;t2b0b1;f12", 5);
        return x;
    }

    private static void newObject() {
        Counted x = new Counted();
        for (int place = 0; place < 64; place++) {
            DUE.is("new net " + place, x.at(place / 8, place % 8, 0), 0);
            DUE.is("new warmth " + place, x.at(place / 8, place % 8, 1), 0);
            DUE.is("new touch " + place, x.at(place / 8, place % 8, 6), WarmProbes.NONE);
        }
        for (int what = 0; what <= 8; what++) {
            DUE.is("new count " + what, x.count(what), 0);
        }
        int[] first = {15, 5, 20, 3, 0, 0};
        for (int i = 0; i < first.length; i++) {
            DUE.is("new count " + (9 + i), x.count(9 + i), first[i]);
        }
        for (int net = 1; net <= 7; net++) {
            DUE.is("new pairs " + net, x.ofNet(net, 1), 0);
        }
        DUE.is("new restore 0", x.restore(0), WarmProbes.NOT_POSSIBLE);
        DUE.is("new restore 1", x.restore(1), WarmProbes.NOT_POSSIBLE);
        DUE.is("new undo", x.undo(), WarmProbes.NOT_POSSIBLE);
        DUE.is("new fault", x.fault(), 0);
    }

    private static void set() {
        int[][] ranges = {{0, 24, 15}, {0, 50, 5}, {1, 99, 20}, {0, 99, 3}};
        for (int setting = 0; setting < 4; setting++) {
            Counted x = new Counted();
            int least = ranges[setting][0];
            int most = ranges[setting][1];
            DUE.is("set too low " + setting, x.set(setting, least - 1), WarmProbes.BAD_VALUE);
            DUE.is("set too high " + setting, x.set(setting, most + 1), WarmProbes.BAD_VALUE);
            DUE.is("set far too low " + setting, x.set(setting, LOW), WarmProbes.BAD_VALUE);
            DUE.is("set far too high " + setting, x.set(setting, HIGH), WarmProbes.BAD_VALUE);
            DUE.is("errors of set are no change", x.count(14), 0);
            DUE.is("set least " + setting, x.set(setting, least), ranges[setting][2]);
            DUE.is("set most " + setting, x.set(setting, most), least);
            DUE.is("set again " + setting, x.set(setting, most), most);
            DUE.is("setting " + setting, x.count(9 + setting), most);
            DUE.is("set is a change " + setting, x.count(14), 3);
        }
        Counted x = new Counted();
        for (int setting : new int[] {-1, 4, LOW, HIGH}) {
            DUE.is("set no setting " + setting, x.set(setting, 5), WarmProbes.BAD_VALUE);
        }
    }

    private static void setBeginsRun() {
        for (int setting = 0; setting < 4; setting++) {
            Counted x = small();
            x.touch(0, 0, 2);
            x.warm(3);
            x.probe(0, 0);
            x.set(setting, x.count(9 + setting));
            boolean goesOn = setting == WarmProbes.DOUBT;
            DUE.is("steps behind set " + setting, x.count(0), goesOn ? 3 : 0);
            DUE.is("readings behind set " + setting, x.count(3), goesOn ? 1 : 0);
            DUE.is("is warm behind set " + setting, x.at(0, 0, 1) != 0 ? 1 : 0, goesOn ? 1 : 0);
            DUE.is("touches behind set " + setting, x.count(1), 1);
        }
    }

    private static void track() {
        Counted x = new Counted();
        for (int off : new int[] {-1, 8, LOW, HIGH}) {
            DUE.is("track off row", x.track(off, 0, 1), WarmProbes.NO_SUCH);
            DUE.is("track off column", x.track(0, off, 1), WarmProbes.NO_SUCH);
            DUE.is("track off, net too", x.track(off, off, off), WarmProbes.NO_SUCH);
            DUE.is("track no net", x.track(7, 7, off), WarmProbes.BAD_VALUE);
        }
        DUE.is("track errors change nothing", x.count(14) + x.count(4), 0);
        DUE.is("track first", x.track(7, 0, 7), 0);
        DUE.is("track other", x.track(7, 0, 1), 7);
        DUE.is("track is a change", x.count(14), 2);
        DUE.is("net", x.at(7, 0, 0), 1);
        x.warm(5);
        x.probe(1, 1);
        DUE.is("track the same", x.track(7, 0, 1), 1);
        DUE.is("track begins a run: steps", x.count(0), 0);
        DUE.is("track begins a run: readings", x.count(3), 0);
        DUE.is("track none", x.track(7, 0, 0), 1);
        DUE.is("track none again", x.track(7, 0, 0), 0);
        DUE.is("no net", x.at(7, 0, 0), 0);
    }

    private static void trackByTouches() {
        Counted x = new Counted();
        Due.carryOut(x, "t1c2b3;t2b2d2;t3c1;sc2=2", 6);
        int changes = x.count(14);
        for (int net = 0; net <= 7; net++) {
            DUE.is("track under the touch " + net, x.track(2, 2, net), WarmProbes.NOT_POSSIBLE);
            DUE.is("track of the other net, left " + net, x.track(2, 1, net), WarmProbes.NOT_POSSIBLE);
            DUE.is("track of the other net, right " + net, x.track(2, 3, net), WarmProbes.NOT_POSSIBLE);
        }
        DUE.is("value is looked at first", x.track(2, 2, 8), WarmProbes.BAD_VALUE);
        DUE.is("errors are no change", x.count(14), changes);
        DUE.is("track of a third net", x.track(1, 2, 0), 3);
        DUE.is("track of no net", x.track(3, 2, 4), 0);
        DUE.is("a neighbour of a neighbour", x.track(3, 1, 2), 1);
        DUE.is("net 2 comes by the touch", x.track(1, 2, 2), 0);
        DUE.is("and cannot go", x.track(1, 2, 0), WarmProbes.NOT_POSSIBLE);
        x.mend(0);
        DUE.is("goes when mended", x.track(2, 1, 5), 2);
        DUE.is("goes when mended, under it", x.track(2, 2, 0), 1);
    }

    private static void touch() {
        Counted x = new Counted();
        Due.carryOut(x, "t1a0b1;t2b0;t3h7;t4g7;t5c1", 6);
        x.warm(2);
        x.probe(0, 0);
        DUE.is("touch", x.touch(0, 0, 2), 0);
        DUE.is("touch begins a run: steps", x.count(0), 0);
        DUE.is("touch begins a run: readings", x.count(3), 0);
        DUE.is("touch is not live", x.ofTouch(0, 3), 0);
        int changes = x.count(14);
        DUE.is("touch at a touch", x.touch(0, 0, 2), WarmProbes.NOT_POSSIBLE);
        DUE.is("touch with its own net", x.touch(1, 1, 1), WarmProbes.NOT_POSSIBLE);
        DUE.is("touch without a track", x.touch(4, 4, 1), WarmProbes.NOT_POSSIBLE);
        DUE.is("touch with a net that is not there", x.touch(1, 1, 3), WarmProbes.NOT_POSSIBLE);
        DUE.is("touch over the edge of a row", x.touch(7, 7, 1), WarmProbes.NOT_POSSIBLE);
        DUE.is("errors are no change", x.count(14), changes);
        DUE.is("touch above", x.touch(1, 1, 2), 1);
        DUE.is("touch at the last place", x.touch(7, 7, 4), 2);
        DUE.is("touch is a change", x.count(1), 3);
        DUE.is("place", x.ofTouch(2, 0), 63);
        DUE.is("number", x.at(7, 7, 6), 2);
        DUE.is("too many", x.touch(7, 6, 3), WarmProbes.TOO_MANY);
    }

    private static void touchOrderOfErrors() {
        Counted x = new Counted();
        Due.carryOut(x, "t1a0a1a2;t2b0b1b2;sa0=2;sa1=2;sa2=2", 9);
        for (int off : new int[] {-1, 8, LOW, HIGH}) {
            DUE.is("touch off row", x.touch(off, 0, 0), WarmProbes.NO_SUCH);
            DUE.is("touch off column", x.touch(0, off, 0), WarmProbes.NO_SUCH);
            DUE.is("touch no net", x.touch(0, 0, off), WarmProbes.BAD_VALUE);
        }
        DUE.is("touch net 0", x.touch(0, 0, 0), WarmProbes.BAD_VALUE);
        DUE.is("not possible ahead of too many", x.touch(0, 0, 2), WarmProbes.NOT_POSSIBLE);
        DUE.is("too many", x.touch(0, 1, 1), WarmProbes.TOO_MANY);
    }

    private static void mend() {
        Counted x = new Counted();
        DUE.is("mend none", x.mend(0), WarmProbes.NO_SUCH);
        Due.carryOut(x, "t1a0a1a2;t2b0b1b2;sa0=2;sa1=2;sb2=1;w3;pa0", 11);
        for (int off : new int[] {-1, 3, LOW, HIGH}) {
            DUE.is("mend no touch", x.mend(off), WarmProbes.NO_SUCH);
        }
        DUE.is("errors are no change", x.count(14), 1);
        DUE.is("mend the first", x.mend(0), 2);
        DUE.is("mend begins a run: steps", x.count(0), 0);
        DUE.is("mend begins a run: readings", x.count(3), 0);
        DUE.is("mend is a change", x.count(14), 2);
        DUE.is("place of 0", x.ofTouch(0, 0), 8);
        DUE.is("other of 0", x.ofTouch(0, 2), 2);
        DUE.is("place of 1", x.ofTouch(1, 0), 17);
        DUE.is("other of 1", x.ofTouch(1, 2), 1);
        DUE.is("number of the second", x.at(1, 0, 6), 0);
        DUE.is("no touch there", x.at(0, 0, 6), WarmProbes.NONE);
        DUE.is("mend the last", x.mend(1), 1);
        DUE.is("place of 0 still", x.ofTouch(0, 0), 8);
        DUE.is("a mended one is no touch", x.mend(1), WarmProbes.NO_SUCH);
        DUE.is("mend all", x.mend(0), 0);
        DUE.is("a touch again", x.touch(2, 0, 2), 0);
    }

    private static void feed() {
        Counted x = new Counted();
        for (int off : new int[] {-1, 0, 8, LOW, HIGH}) {
            DUE.is("feed no net", x.feed(off, 1), WarmProbes.NO_SUCH);
            DUE.is("feed no other", x.feed(1, off), WarmProbes.NO_SUCH);
            DUE.is("feed no net twice", x.feed(off, off), WarmProbes.NO_SUCH);
        }
        DUE.is("feed the same", x.feed(7, 7), WarmProbes.BAD_VALUE);
        DUE.is("errors are no change", x.count(14), 0);
        x.warm(4);
        x.probe(0, 0);
        DUE.is("feed", x.feed(1, 7), 1);
        DUE.is("feed begins a run: steps", x.count(0), 0);
        DUE.is("feed begins a run: readings", x.count(3), 0);
        DUE.is("feed is a change", x.count(14), 3);
        DUE.is("pairs of 1", x.ofNet(1, 1), 1 << 7);
        DUE.is("pairs of 7", x.ofNet(7, 1), 1 << 1);
        DUE.is("feed another", x.feed(3, 1), 1);
        DUE.is("pairs of 1 then", x.ofNet(1, 1), 1 << 7 | 1 << 3);
        DUE.is("feed no more", x.feed(7, 1), 0);
        DUE.is("pairs of 1 at last", x.ofNet(1, 1), 1 << 3);
        DUE.is("pairs of 7 at last", x.ofNet(7, 1), 0);
    }

    private static void cool() {
        Counted x = small();
        x.touch(0, 0, 2);
        x.warm(7);
        x.warm(3);
        x.probe(0, 0);
        int changes = x.count(14);
        DUE.is("cool", x.cool(), 10);
        DUE.is("cool is a change", x.count(14), changes + 1);
        DUE.is("no steps", x.count(0), 0);
        DUE.is("no readings", x.count(3), 0);
        DUE.is("cold", x.mean(), 0);
        DUE.is("the touch is still there", x.count(1), 1);
        DUE.is("cool again", x.cool(), 0);
        x.warm(1);
        DUE.isWarmth("warm again", x.at(0, 0, 1), 20.0f);
    }

    private static void warm() {
        Counted x = new Counted();
        for (int off : new int[] {0, -1, 51, LOW, HIGH}) {
            DUE.is("warm out of range", x.warm(off), WarmProbes.BAD_VALUE);
        }
        DUE.is("errors are no change", x.count(14), 0);
        DUE.is("warm 1", x.warm(1), 1);
        DUE.is("warm is a change", x.count(14), 1);
        DUE.is("warm 50", x.warm(50), 51);
        DUE.is("warm above 100", x.warm(50), WarmProbes.NOT_POSSIBLE);
        DUE.is("warm out of range ahead of it", x.warm(51), WarmProbes.BAD_VALUE);
        DUE.is("steps stay", x.count(0), 51);
        DUE.is("warm 49", x.warm(49), 100);
        DUE.is("warm no more", x.warm(1), WarmProbes.NOT_POSSIBLE);
        DUE.is("the changes that were", x.count(14), 3);
    }

    private static void warmByHand() {
        Counted x = small();
        x.touch(0, 0, 2);
        x.warm(1);
        DUE.isWarmth("a live touch", x.at(0, 0, 1), 20.0f);
        DUE.isWarmth("its neighbour", x.at(0, 1, 1), 0.0f);
        x.warm(1);
        float lost = 0.0f + (0.0f - 20.0f) * 15.0f / 100.0f;
        lost = lost + (0.0f - 20.0f) * 15.0f / 100.0f;
        DUE.isWarmth("a touch in the corner", x.at(0, 0, 1), (20.0f + lost) * 95.0f / 100.0f + 20.0f);
        float got = (20.0f - 0.0f) * 15.0f / 100.0f;
        DUE.isWarmth("right of it", x.at(0, 1, 1), (0.0f + got) * 95.0f / 100.0f);
        DUE.isWarmth("below it", x.at(1, 0, 1), (0.0f + got) * 95.0f / 100.0f);
        DUE.isWarmth("not across", x.at(1, 1, 1), 0.0f);
        DUE.isWarmth("not over the edge", x.at(0, 7, 1), 0.0f);
        DUE.isWarmth("not over the other edge", x.at(7, 0, 1), 0.0f);
        x.set(WarmProbes.SPREAD, 0);
        x.set(WarmProbes.LOSS, 50);
        x.set(WarmProbes.POWER, 99);
        x.warm(3);
        DUE.isWarmth("nothing goes over", x.at(0, 1, 1), 0.0f);
        DUE.isWarmth("half of it is lost", x.at(0, 0, 1), 173.25f);
        x.feed(1, 2);
        x.warm(3);
        DUE.is("a touch that is not live makes nothing", x.mean(), 0);
    }

    private static void warmOfTwoTouches() {
        Counted x = small();
        Due.carryOut(x, "t3c1;sa0=2;sb1=1;sc1=2", 4);
        x.warm(1);
        DUE.isWarmth("first", x.at(0, 0, 1), 20.0f);
        DUE.isWarmth("second", x.at(1, 1, 1), 20.0f);
        DUE.isWarmth("not fed", x.at(1, 2, 1), 0.0f);
        x.warm(1);
        float t = 0.0f + (20.0f - 0.0f) * 15.0f / 100.0f;
        t = t + (20.0f - 0.0f) * 15.0f / 100.0f;
        DUE.isWarmth("between both", x.at(0, 1, 1), (0.0f + t) * 95.0f / 100.0f);
        DUE.isWarmth("by the second", x.at(1, 2, 1), (20.0f * 15.0f / 100.0f) * 95.0f / 100.0f);
    }

    private static void probe() {
        Counted x = small();
        x.touch(0, 0, 2);
        for (int off : new int[] {-1, 8, LOW, HIGH}) {
            DUE.is("probe off row", x.probe(off, 0), WarmProbes.NO_SUCH);
            DUE.is("probe off column", x.probe(0, off), WarmProbes.NO_SUCH);
        }
        DUE.is("errors are no readings", x.count(3), 0);
        DUE.is("probe cold", x.probe(0, 0), 0);
        x.warm(2);
        int changes = x.count(14);
        DUE.is("probe", x.probe(0, 0), 333);
        DUE.is("probe cuts off", x.probe(0, 1), 28);
        DUE.is("probe is a change", x.count(14), changes + 2 > 6 ? 6 : changes + 2);
        DUE.is("steps stay", x.count(0), 2);
        for (int i = 3; i < 8; i++) {
            DUE.is("probe a cold place " + i, x.probe(7, 7), 0);
        }
        DUE.is("readings", x.count(3), 8);
        DUE.is("no such place ahead of too many", x.probe(8, 7), WarmProbes.NO_SUCH);
        DUE.is("too many", x.probe(7, 7), WarmProbes.TOO_MANY);
        x.cool();
        DUE.is("probe of a new run", x.probe(7, 7), 0);
    }
}
