/**
 * The edges of the terms: the rim of the board, what is suspect and live, when a run begins, what a probe reads, how
 * far a reading can be wrong, the places for the next probe, and in how many steps a place is warm.
 */
public final class TermsTest {
    private static final Due DUE = new Due();
    private static final int NO_SUCH = -1, NOT_POSSIBLE = -5, NONE = -6;

    public static void main(String[] args) {
        neighboursOfEachPlace();
        warmthAtTheRim();
        suspect();
        live();
        touchAndNeighbours();
        trackAndNeighbours();
        runsBegin();
        runsGoOn();
        readCutsOff();
        doubtOnBothSides();
        doubtByEachReading();
        doubtOfTwo();
        notAPairWithItself();
        readingsByTheirSteps();
        madeBySettings();
        bestOfFew();
        bestOfSeveral();
        warmestOfSeveral();
        within200();
        orMore();
        wouldReadOfSuspects();
        setsOfColumns();
        meanOfAll();
        DUE.end();
    }

    private static boolean areNeighbours(int place, int other) {
        return Math.abs(place / 8 - other / 8) + Math.abs(place % 8 - other % 8) == 1;
    }

    /** "Neighbours of a place are the ones above, below, to the left and to the right of it, as far as there are." */
    private static void neighboursOfEachPlace() {
        for (int place = 0; place < 64; place++) {
            Counted x = new Counted();
            x.feed(1, 2);
            x.track(place / 8, place % 8, 1);
            long suspects = 0;
            for (int other = 0; other < 64; other++) {
                if (other != place) {
                    x.track(other / 8, other % 8, 2);
                    boolean is = areNeighbours(place, other);
                    DUE.is(place + " is suspect by " + other, x.at(place / 8, place % 8, 3), is ? 1 : 0);
                    DUE.is(other + " is suspect by " + place, x.at(other / 8, other % 8, 3), is ? 1 : 0);
                    if (is) {
                        DUE.is("touch at " + place + " by " + other, x.touch(place / 8, place % 8, 2), 0);
                        x.mend(0);
                        suspects++;
                    }
                    x.track(other / 8, other % 8, 0);
                }
            }
            boolean isRow = place / 8 % 7 == 0;
            boolean isColumn = place % 8 % 7 == 0;
            DUE.is("neighbours of " + place, suspects, isRow && isColumn ? 2 : isRow || isColumn ? 3 : 4);
        }
    }

    /** In a second step the neighbours of a touch are warm, and no other place. */
    private static void warmthAtTheRim() {
        for (int place = 0; place < 64; place++) {
            Counted x = Scenes.checkered();
            x.touch(place / 8, place % 8, 3 - x.at(place / 8, place % 8, 0));
            x.warm(2);
            float lost = 0.0f;
            for (int other = 0; other < 64; other++) {
                float want = 0.0f;
                if (areNeighbours(place, other)) {
                    want = (0.0f + (20.0f - 0.0f) * 15.0f / 100.0f) * 95.0f / 100.0f;
                    lost = lost + (0.0f - 20.0f) * 15.0f / 100.0f;
                }
                if (other != place) {
                    DUE.isWarmth("touch at " + place + ", warmth of " + other, x.at(other / 8, other % 8, 1), want);
                }
            }
            DUE.isWarmth("touch at " + place, x.at(place / 8, place % 8, 1), (20.0f + lost) * 95.0f / 100.0f + 20.0f);
        }
    }

    /** "it has a track, and a neighbour with a track of another net, and both are a fed pair". */
    private static void suspect() {
        Counted x = new Counted();
        x.track(3, 3, 1);
        DUE.is("no neighbour with a track", x.at(3, 3, 3), 0);
        x.track(3, 4, 1);
        DUE.is("one of the same net", x.at(3, 3, 3), 0);
        x.track(2, 3, 2);
        DUE.is("one of another net, not fed", x.at(3, 3, 3), 0);
        x.feed(1, 3);
        DUE.is("another pair is fed", x.at(3, 3, 3), 0);
        x.feed(2, 3);
        DUE.is("and another one", x.at(3, 3, 3), 0);
        x.feed(2, 1);
        DUE.is("the pair is fed", x.at(3, 3, 3), 1);
        DUE.is("the neighbour too", x.at(2, 3, 3), 1);
        DUE.is("not the one with neighbours of its net", x.at(3, 4, 3), 0);
        DUE.is("not one without a track", x.at(4, 3, 3), 0);
        DUE.is("not one across", x.at(2, 4, 3), 0);
        DUE.is("two", x.count(5), 2);
        x.feed(1, 2);
        DUE.is("not fed any more", x.count(5), 0);
        x.feed(1, 2);
        x.track(2, 3, 0);
        DUE.is("the neighbour has no track any more", x.at(3, 3, 3), 0);
        x.track(4, 3, 3);
        DUE.is("a fed pair with another one", x.at(3, 3, 3), 1);
    }

    /** "A touch is live if its net and the other one are a fed pair." */
    private static void live() {
        Counted x = new Counted();
        Due.carryOut(x, "t1b1;t2a1;t3c1;f13;sb1=2", 5);
        DUE.is("1 and 2 are not fed, 1 and 3 are", x.ofTouch(0, 3), 0);
        DUE.is("live ones", x.count(2), 0);
        x.warm(9);
        DUE.is("no warmth", x.mean(), 0);
        DUE.is("suspect by 3", x.at(1, 1, 3), 1);
        x.feed(2, 1);
        DUE.is("fed", x.ofTouch(0, 3), 1);
        DUE.is("one live one", x.count(2), 1);
        x.warm(1);
        DUE.is("warm", x.at(1, 1, 2), 200);
        x.feed(3, 1);
        DUE.is("live by its own pair alone", x.ofTouch(0, 3), 1);
        x.feed(1, 2);
        DUE.is("not fed any more", x.ofTouch(0, 3), 0);
    }

    /** "with another net of which a neighbour has a track". */
    private static void touchAndNeighbours() {
        Counted x = new Counted();
        x.track(4, 4, 1);
        DUE.is("no neighbour", x.touch(4, 4, 2), NOT_POSSIBLE);
        int[][] across = {{3, 3}, {3, 5}, {5, 3}, {5, 5}, {2, 4}, {6, 4}, {4, 2}, {4, 6}};
        for (int[] place : across) {
            x.track(place[0], place[1], 2);
        }
        DUE.is("none across, none two away", x.touch(4, 4, 2), NOT_POSSIBLE);
        int[][] beside = {{3, 4}, {5, 4}, {4, 3}, {4, 5}};
        for (int[] place : beside) {
            x.track(place[0], place[1], 3);
            DUE.is("a neighbour of another net", x.touch(4, 4, 2), NOT_POSSIBLE);
            DUE.is("its own net", x.touch(4, 4, 1), NOT_POSSIBLE);
            DUE.is("of this net", x.touch(4, 4, 3), 0);
            x.mend(0);
            x.track(place[0], place[1], 0);
        }
        DUE.is("no track, but neighbours", x.touch(3, 4, 2), NOT_POSSIBLE);
    }

    /** "if a touch is at the place, or at a neighbour of it, and with the net of the track that it has". */
    private static void trackAndNeighbours() {
        Counted x = new Counted();
        Due.carryOut(x, "t1e4;t2e3d4;t3f4;se4=2", 5);
        int[][] free = {{5, 4}, {3, 3}, {3, 5}, {5, 3}, {5, 5}, {2, 4}, {4, 2}, {4, 6}, {6, 4}};
        for (int[] place : free) {
            DUE.is("track of 2, away", x.track(place[0], place[1], 2), 0);
        }
        DUE.is("below has 2 now", x.track(5, 4, 0), NOT_POSSIBLE);
        DUE.is("above", x.track(3, 4, 0), NOT_POSSIBLE);
        DUE.is("left", x.track(4, 3, 2), NOT_POSSIBLE);
        DUE.is("the touch", x.track(4, 4, 1), NOT_POSSIBLE);
        DUE.is("right has 3", x.track(4, 5, 1), 3);
        DUE.is("right has 1, the touch's own net", x.track(4, 5, 0), 1);
        for (int[] place : free) {
            if (place[0] != 5 || place[1] != 4) {
                DUE.is("away", x.track(place[0], place[1], 0), 2);
            }
        }
        Counted y = new Counted();
        Due.carryOut(y, "t1h0;t2g0;t2a1;sh0=2", 4);
        DUE.is("over the edge is no neighbour", y.track(1, 0, 0), 2);
        DUE.is("the one beside", y.track(0, 6, 0), NOT_POSSIBLE);
    }

    private static Counted inTheMidst() {
        Counted x = Scenes.board();
        Due.carryOut(x, "sa0=2;w4;pa0;pb3", 4);
        return x;
    }

    /** "A new run begins behind [..] (also if that changes nothing)." */
    private static void runsBegin() {
        for (int which = 0; which <= 12; which++) {
            Counted x = inTheMidst();
            DUE.is("change " + which, beginner(x, which) >= 0 ? 1 : 0, 1);
            DUE.is("steps behind change " + which, x.count(0), 0);
            DUE.is("readings behind change " + which, x.count(3), 0);
            DUE.is("no reading behind change " + which, x.reading(0, 0), NO_SUCH);
            DUE.is("cold behind change " + which, x.mean(), 0);
            for (int place = 0; place < 64; place += 9) {
                DUE.is("cold place behind change " + which, x.at(place / 8, place % 8, 1), 0);
            }
            DUE.is("100 steps can pass behind change " + which, x.warm(50) + x.warm(50), 150);
        }
    }

    private static int beginner(Counted x, int which) {
        switch (which) {
            case 0: return x.track(5, 5, 3);
            case 1: return x.track(3, 1, 2);
            case 2: return x.track(7, 7, 0);
            case 3: return x.touch(3, 0, 2);
            case 4: return x.mend(0);
            case 5: return x.feed(1, 2);
            case 6: return x.feed(5, 6);
            case 7: return x.cool();
            case 8: return x.set(WarmProbes.SPREAD, 15);
            case 9: return x.set(WarmProbes.LOSS, 5);
            case 10: return x.set(WarmProbes.POWER, 20);
            case 11: return x.set(WarmProbes.LOSS, 0);
            default:
                Due.put(x, "t0h7");
                return x.carryOut();
        }
    }

    /** What begins no run: DOUBT, steps, probes, texts without such orders, looks, saving, and all that is refused. */
    private static void runsGoOn() {
        Counted x = inTheMidst();
        int warm = x.at(0, 0, 1);
        x.set(WarmProbes.DOUBT, 3);
        x.set(WarmProbes.DOUBT, 99);
        x.probe(0, 0);
        Due.put(x, "pa0;t8a5");
        x.fault();
        x.carryOut();
        x.wipe();
        x.save(0);
        x.set(WarmProbes.POWER, 100);
        x.track(0, 0, 1);
        x.touch(0, 0, 2);
        x.mend(1);
        x.feed(1, 1);
        x.bestProbe(0);
        x.readsIn(0, 0, 9999);
        x.wouldRead(0, 0, 0, 0);
        DUE.is("steps", x.count(0), 4);
        DUE.is("readings", x.count(3), 4);
        DUE.is("warmth", x.at(0, 0, 1), warm);
        DUE.is("warm goes on", x.warm(46), 50);
        x.cool();
        DUE.is("a run that was is back by undo", x.undo(), 6 - 1);
        DUE.is("its steps", x.count(0), 50);
        DUE.is("restore brings a run", x.restore(0), 1);
        DUE.is("its steps", x.count(0), 4);
        DUE.is("its readings", x.count(3), 4);
        DUE.is("its warmth", x.at(0, 0, 1), warm);
    }

    /** Without spread, and half of it lost in a step: 1, 1.5, 1.75, 1.875 .. "(int) (w * 10.0f)". */
    private static void readCutsOff() {
        Counted x = Scenes.board();
        x.touch(0, 0, 2);
        x.set(WarmProbes.SPREAD, 0);
        x.set(WarmProbes.LOSS, 50);
        x.set(WarmProbes.POWER, 1);
        int[] reads = {0, 10, 15, 17, 18, 19, 19, 19};
        for (int i = 0; i < 8; i++) {
            DUE.is("read " + i, x.at(0, 0, 2), reads[i]);
            DUE.is("probe " + i, x.probe(0, 0), reads[i]);
            x.warm(1);
        }
        x.set(WarmProbes.SPREAD, 1);
        x.warm(9);
        DUE.is("not cold", x.at(0, 1, 1) != 0 ? 1 : 0, 1);
        DUE.is("0.0097 reads 0", x.at(0, 1, 2), 0);
        x.set(WarmProbes.POWER, 99);
        x.warm(2);
        DUE.is("0.495 reads 4", x.at(0, 1, 2), 4);
    }

    /** A touch that reads 10 * POWER behind one step; "differs from what was read by DOUBT or less". */
    private static void doubtOnBothSides() {
        for (int power = 1; power <= 9; power++) {
            Counted x = new Counted();
            Due.carryOut(x, "t1a0;t2b0;f12;sa0=2", 4);
            x.set(WarmProbes.POWER, power);
            x.warm(1);
            DUE.is("was read", x.probe(0, 0), 10 * power);
            x.set(WarmProbes.DOUBT, 10 * power - 1);
            DUE.is("0 is less by more than doubt", x.at(0, 1, 4), 0);
            DUE.is("the same differs by 0", x.at(0, 0, 4), 1);
            x.set(WarmProbes.DOUBT, 10 * power);
            DUE.is("0 is less by doubt", x.at(0, 1, 4), 1);
            x.cool();
            x.warm(1);
            DUE.is("0 was read", x.probe(0, 1), 0);
            DUE.is("more by doubt", x.at(0, 1, 4), 1);
            x.set(WarmProbes.DOUBT, 10 * power - 1);
            DUE.is("more by more than doubt", x.at(0, 1, 4), 0);
            x.set(WarmProbes.DOUBT, 0);
            DUE.is("more than 0", x.at(0, 1, 4), 0);
            DUE.is("0 differs from 0 by 0", x.at(0, 0, 4), 1);
        }
        Counted x = new Counted();
        Due.carryOut(x, "t1a0;t2b0;f12;sa0=2", 4);
        x.set(WarmProbes.POWER, 10);
        x.set(WarmProbes.DOUBT, 99);
        x.warm(1);
        DUE.is("100 was read", x.probe(0, 0), 100);
        DUE.is("0 is less by 100, and doubt is 99", x.at(0, 1, 4), 0);
    }

    /** "for each reading": the one that does not fit is any one of eight. */
    private static void doubtByEachReading() {
        for (int unlike = -1; unlike < 8; unlike++) {
            Counted x = new Counted();
            Due.carryOut(x, "t1a0;t2b0;f12;sa0=2;w1", 5);
            for (int i = 0; i < 8; i++) {
                x.probe(i == unlike ? 0 : 7, i == unlike ? 0 : 7);
            }
            DUE.is("the touch, unlike " + unlike, x.at(0, 0, 4), 1);
            DUE.is("the other place, unlike " + unlike, x.at(0, 1, 4), unlike < 0 ? 1 : 0);
            DUE.is("could be the touch, unlike " + unlike, x.count(6), unlike < 0 ? 2 : 1);
            DUE.is("a row of them, unlike " + unlike, x.row(0, 2), unlike < 0 ? 3 : 1);
            DUE.is("one pair, unlike " + unlike, x.count(7), 1);
        }
        for (int unlike = -1; unlike < 8; unlike++) {
            Counted x = new Counted();
            Due.carryOut(x, "t1a0;t2b0;f12;sa0=2;w1", 5);
            for (int i = 0; i < 8; i++) {
                x.probe(i == unlike ? 0 : 7, i == unlike ? 1 : 7);
            }
            DUE.is("no pair if the other place is cold, unlike " + unlike, x.count(7), unlike < 0 ? 1 : 0);
            DUE.is("one of two, unlike " + unlike, x.at(0, 0, 5), unlike < 0 ? 1 : 0);
            DUE.is("the other of two, unlike " + unlike, x.at(0, 1, 5), unlike < 0 ? 1 : 0);
        }
    }

    /** "if that is so for the warmth of both added"; a step takes a fifth of 5 over, so that all warmth is whole. */
    private static void doubtOfTwo() {
        Counted x = new Counted();
        Due.carryOut(x, "t1a0;t2b0;f12;sa0=2;sb0=1", 5);
        x.set(WarmProbes.SPREAD, 20);
        x.set(WarmProbes.LOSS, 0);
        x.set(WarmProbes.POWER, 5);
        x.set(WarmProbes.DOUBT, 0);
        x.warm(2);
        DUE.is("made by the place", x.wouldRead(0, 0, 0, 0), 80);
        DUE.is("made by the other one", x.wouldRead(0, 0, 0, 1), 10);
        DUE.is("read by two", x.probe(0, 0), 90);
        DUE.is("fits without doubt", x.count(7), 1);
        DUE.is("neither alone", x.count(6), 0);
        x.mend(1);
        x.warm(2);
        DUE.is("read by one", x.probe(0, 0), 80);
        for (int doubt = 8; doubt <= 12; doubt++) {
            x.set(WarmProbes.DOUBT, doubt);
            DUE.is("both make 10 more, doubt is " + doubt, x.count(7), doubt < 10 ? 0 : 1);
            DUE.is("one of two, doubt is " + doubt, x.at(0, 0, 5), doubt < 10 ? 0 : 1);
            DUE.is("the other of two, doubt is " + doubt, x.at(0, 1, 5), doubt < 10 ? 0 : 1);
        }
        Counted z = Scenes.board();
        z.set(WarmProbes.DOUBT, 0);
        Due.carryOut(z, "sa0=2;sa2=2;w2", 3);
        DUE.is("28 by each", z.wouldRead(1, 0, 0, 0) + z.wouldRead(1, 0, 2, 0), 28 + 28);
        DUE.is("57 by both, since warmth is added and not what is read", z.probe(1, 0), 57);
        DUE.is("three pairs of the three neighbours", z.count(7), 3);
        Counted y = Scenes.board();
        Due.carryOut(y, "sa0=2;sa1=2;sa2=2;w1;pa0;pa1", 6);
        DUE.is("two of three touches read 200", y.count(7), 1);
        y.probe(2, 0);
        DUE.is("no two places for three", y.count(7), 0);
    }

    /** "Two unlike suspect places". */
    private static void notAPairWithItself() {
        Counted x = Scenes.board();
        DUE.is("8 places, 28 pairs", x.count(7), 28);
        Counted y = new Counted();
        Due.carryOut(y, "t1a0;t2b0;t1g7;t3h7;f12;sa0=2;sb0=1;w1;pa0", 9);
        DUE.is("200 at a0 is by it and the other one", y.count(7), 1);
        Due.carryOut(y, "pb0", 1);
        DUE.is("and 200 at b0", y.count(7), 1);
        DUE.is("no place alone", y.count(6), 0);
        Counted z = new Counted();
        DUE.is("no suspect place", z.count(7), 0);
        z.track(0, 0, 1);
        DUE.is("one track", z.count(7), 0);
        z.track(0, 1, 2);
        z.feed(1, 2);
        DUE.is("two suspect places", z.count(7), 1);
        z.track(1, 1, 1);
        DUE.is("three suspect places", z.count(7), 3);
    }

    /** "at the place of the reading behind its steps": from none up to 100. */
    private static void readingsByTheirSteps() {
        Counted x = new Counted();
        Due.carryOut(x, "t1a0;t2b0;f12;sa0=2", 4);
        x.probe(0, 0);
        DUE.is("behind no steps both fit", x.count(6), 2);
        x.warm(50);
        DUE.is("behind no steps both fit still", x.count(6), 2);
        x.warm(50);
        DUE.is("behind no steps both fit at last", x.count(6), 2);
        x.probe(0, 0);
        DUE.is("steps of the second", x.reading(1, 2), 100);
        DUE.is("behind 100 steps one fits", x.count(6), 1);
        DUE.is("what it would read there", x.wouldRead(0, 0, 0, 0), x.at(0, 0, 2));
        x.undo();
        x.undo();
        DUE.is("behind 50 steps", x.wouldRead(0, 0, 0, 0), x.at(0, 0, 2));
        x.undo();
        DUE.is("behind no steps", x.wouldRead(0, 0, 0, 0), 0);
        Counted y = new Counted();
        Due.carryOut(y, "t1a0;t2b0;f12;sa0=2;w1", 5);
        y.probe(0, 1);
        y.warm(1);
        y.probe(0, 1);
        DUE.is("0 behind one step, 28 behind two", y.reading(0, 1) + y.reading(1, 1), 28);
        DUE.is("only the touch", y.row(0, 2), 1);
    }

    /** What places make hangs on the settings of now, also when they change by undo and restore. */
    private static void madeBySettings() {
        int[][] changes = {{WarmProbes.SPREAD, 24}, {WarmProbes.LOSS, 50}, {WarmProbes.POWER, 99},
            {WarmProbes.SPREAD, 0}, {WarmProbes.LOSS, 0}, {WarmProbes.POWER, 1}};
        for (int[] change : changes) {
            Counted x = Scenes.board();
            Due.carryOut(x, "sa0=2;w7", 2);
            x.save(0);
            int before = x.at(0, 0, 2);
            DUE.is("the touch makes what is there", x.wouldRead(0, 0, 0, 0), before);
            x.set(change[0], change[1]);
            x.warm(7);
            int behind = x.at(0, 0, 2);
            DUE.is("other warmth by " + change[0] + " " + change[1], behind == before ? 1 : 0, 0);
            DUE.is("the touch makes it, too", x.wouldRead(0, 0, 0, 0), behind);
            x.probe(0, 0);
            DUE.is("it could be the touch", x.at(0, 0, 4), 1);
            x.undo();
            x.undo();
            x.undo();
            DUE.is("as before, by undo", x.wouldRead(0, 0, 0, 0), before);
            x.set(change[0], change[1]);
            x.warm(7);
            x.save(1);
            DUE.is("as behind, by set", x.wouldRead(0, 0, 0, 0), behind);
            x.restore(0);
            DUE.is("as before, by restore", x.wouldRead(0, 0, 0, 0), before);
            x.restore(1);
            DUE.is("as behind, by restore", x.wouldRead(0, 0, 0, 0), behind);
        }
    }

    /** "NONE if fewer than two places could be the touch." */
    private static void bestOfFew() {
        Counted x = Scenes.board();
        Due.carryOut(x, "sa0=2;sa3=2;w1", 3);
        DUE.is("eight", x.bestProbe(1), 2);
        x.probe(1, 1);
        DUE.is("seven, the first place", x.bestProbe(0), 0);
        x.probe(0, 0);
        DUE.is("one place", x.count(6), 1);
        DUE.is("one: place", x.bestProbe(0), NONE);
        DUE.is("one: numbers", x.bestProbe(1), NONE);
        x.probe(3, 0);
        DUE.is("no place", x.count(6), 0);
        DUE.is("none: place", x.bestProbe(0), NONE);
        DUE.is("none: numbers", x.bestProbe(1), NONE);
        Counted y = new Counted();
        Due.carryOut(y, "t1a0;t2b0;f12;w1", 4);
        DUE.is("two places", y.count(6), 2);
        DUE.is("two: place", y.bestProbe(0), 0);
        DUE.is("two: numbers", y.bestProbe(1), 2);
        y.cool();
        DUE.is("two, cold: place", y.bestProbe(0), 0);
        DUE.is("two, cold: numbers", y.bestProbe(1), 1);
    }

    /** "of several the first one row by row". */
    private static void bestOfSeveral() {
        Counted x = new Counted();
        Due.carryOut(x, "t1d3;t2e3;f12;w1", 4);
        DUE.is("the left one of both", x.bestProbe(0), 27);
        Due.carryOut(x, "t0e3;t2d2;w1", 3);
        DUE.is("the upper one of both", x.bestProbe(0), 19);
        Due.carryOut(x, "t0d3;t0d2;t1h7;t2h6;w1", 5);
        DUE.is("the upper one in the last column", x.bestProbe(0), 55);
        Due.carryOut(x, "t0h6;t2g7;w1", 3);
        DUE.is("the left one in the last row", x.bestProbe(0), 62);
        x.warm(1);
        DUE.is("two numbers first at the one above", x.bestProbe(0), 54);
        DUE.is("two numbers", x.bestProbe(1), 2);
    }

    /** "the warmest place, of several the first one row by row". */
    private static void warmestOfSeveral() {
        Counted x = new Counted();
        DUE.is("all are cold", x.count(8), 0);
        Due.carryOut(x, "t1h7a7h0;t2g7b7g0;f12;sh7=2", 8);
        x.warm(1);
        DUE.is("the last place", x.count(8), 63);
        x.touch(7, 0, 2);
        x.warm(1);
        DUE.is("the first one in the last row", x.count(8), 56);
        x.touch(0, 7, 2);
        x.warm(1);
        DUE.is("the first row", x.count(8), 7);
        x.cool();
        DUE.is("all are cold again", x.count(8), 0);
        for (int place = 0; place < 64; place++) {
            Counted y = Scenes.checkered();
            y.touch(place / 8, place % 8, 3 - y.at(place / 8, place % 8, 0));
            y.warm(1);
            DUE.is("the only one, " + place, y.count(8), place);
        }
    }

    /** "NONE if it is not within 200"; "0 if it does now"; "the bound of steps does not matter". */
    private static void within200() {
        Counted x = Scenes.board();
        x.touch(0, 0, 2);
        x.set(WarmProbes.SPREAD, 0);
        x.set(WarmProbes.LOSS, 0);
        x.set(WarmProbes.POWER, 1);
        int[] passed = {0, 1, 49, 50};
        int steps = 0;
        for (int more : passed) {
            if (more > 0) {
                x.warm(more);
            }
            steps += more;
            DUE.is("199 behind " + steps, x.readsIn(0, 0, 10 * (steps + 199)), 199);
            DUE.is("just 200 behind " + steps, x.readsIn(0, 0, 10 * (steps + 200)), 200);
            DUE.is("just above behind " + steps, x.readsIn(0, 0, 10 * (steps + 200) + 1), NONE);
            DUE.is("201 behind " + steps, x.readsIn(0, 0, 10 * (steps + 201)), NONE);
            DUE.is("one behind " + steps, x.readsIn(0, 0, 10 * steps + 10), 1);
            DUE.is("just above now behind " + steps, x.readsIn(0, 0, 10 * steps + 1), 1);
            if (steps > 0) {
                DUE.is("now behind " + steps, x.readsIn(0, 0, 10 * steps), 0);
                DUE.is("less than now behind " + steps, x.readsIn(0, 0, 1), 0);
            }
            DUE.is("no step passes", x.count(0), steps);
            DUE.is("another place stays cold", x.readsIn(0, 1, 1), NONE);
        }
        DUE.is("100 steps", x.count(0), 100);
        DUE.is("no more can pass", x.warm(1), NOT_POSSIBLE);
    }

    /** "a number or more": a step may go over many numbers at once. */
    private static void orMore() {
        Counted x = Scenes.board();
        x.touch(0, 0, 2);
        DUE.is("1", x.readsIn(0, 0, 1), 1);
        DUE.is("199", x.readsIn(0, 0, 199), 1);
        DUE.is("200", x.readsIn(0, 0, 200), 1);
        DUE.is("201", x.readsIn(0, 0, 201), 2);
        DUE.is("28 beside it", x.readsIn(0, 1, 28), 2);
        DUE.is("29 beside it", x.readsIn(0, 1, 29), 3);
        x.warm(1);
        DUE.is("200 now", x.readsIn(0, 0, 200), 0);
        DUE.is("333 next", x.readsIn(0, 0, 333), 1);
    }

    /** "NO_SUCH if there is no such place, or the second one is not suspect." */
    private static void wouldReadOfSuspects() {
        Counted x = new Counted();
        Due.carryOut(x, "t1a0b0;t2c0;t3d0;f13;w1", 6);
        for (int column = 0; column < 8; column++) {
            DUE.is("not suspect " + column, x.wouldRead(0, column, 0, column), NO_SUCH);
        }
        Due.carryOut(x, "f12;w1", 2);
        int[] want = {NO_SUCH, 200, 200, NO_SUCH, NO_SUCH};
        for (int column = 0; column < want.length; column++) {
            DUE.is("at itself " + column, x.wouldRead(0, column, 0, column), want[column]);
        }
        DUE.is("the first place need not be suspect", x.wouldRead(7, 7, 0, 1), 0);
        x.warm(1);
        DUE.is("nor have a track", x.wouldRead(1, 1, 0, 1), 28);
    }

    /** "Sets of columns are bit masks." */
    private static void setsOfColumns() {
        Counted x = new Counted();
        for (int column = 0; column < 8; column++) {
            x.track(5, column, 1);
            DUE.is("one column", x.row(5, 0), 1 << column);
            DUE.is("none above", x.row(4, 0), 0);
            DUE.is("none below", x.row(6, 0), 0);
            x.track(5, column, 0);
        }
        for (int column = 0; column < 8; column++) {
            x.track(5, column, 1 + column % 2);
            DUE.is("columns up to " + column, x.row(5, 0), (2 << column) - 1);
            DUE.is("none is suspect", x.row(5, 1) + x.row(5, 2), 0);
        }
        x.feed(1, 2);
        DUE.is("all are suspect", x.row(5, 1), 255);
        DUE.is("all could be the touch", x.row(5, 2), 255);
    }

    /** "the warmth of all places, each cast to a double [..] divided by 64.0": the first and the last place count. */
    private static void meanOfAll() {
        int[] corners = {0, 7, 56, 63};
        for (int place : corners) {
            Counted x = Scenes.checkered();
            x.touch(place / 8, place % 8, 3 - x.at(place / 8, place % 8, 0));
            x.warm(1);
            DUE.is("mean by " + place, x.mean(), Double.doubleToLongBits(20.0 / 64.0));
            DUE.isWarmth("of its net by " + place, x.ofNet(x.at(place / 8, place % 8, 0), 2), 20.0f);
            DUE.isWarmth("of the other net by " + place, x.ofNet(3 - x.at(place / 8, place % 8, 0), 2), 0.0f);
        }
    }
}
