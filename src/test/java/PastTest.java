/** Promises 24 to 26: undo, saving and the constants. */
public final class PastTest {
    private static final Due DUE = new Due();
    private static final int[] NO_SLOTS = {-1, 2, Integer.MIN_VALUE, Integer.MAX_VALUE};

    public static void main(String[] args) {
        constants();
        undoOfEachChange();
        undoBringsAllBack();
        undoKeepsPadAndSlots();
        sixStates();
        errorsRecordNothing();
        save();
        restore();
        restoreIsAChange();
        slotsAreCopies();
        DUE.end();
    }

    private static void constants() {
        DUE.is("NO_SUCH", WarmProbes.NO_SUCH, -1);
        DUE.is("BAD_VALUE", WarmProbes.BAD_VALUE, -2);
        DUE.is("BAD_TEXT", WarmProbes.BAD_TEXT, -3);
        DUE.is("TOO_MANY", WarmProbes.TOO_MANY, -4);
        DUE.is("NOT_POSSIBLE", WarmProbes.NOT_POSSIBLE, -5);
        DUE.is("NONE", WarmProbes.NONE, -6);
        DUE.is("SPREAD", WarmProbes.SPREAD, 0);
        DUE.is("LOSS", WarmProbes.LOSS, 1);
        DUE.is("POWER", WarmProbes.POWER, 2);
        DUE.is("DOUBT", WarmProbes.DOUBT, 3);
    }

    private static Counted warmBoard() {
        Counted x = new Counted();
        Due.carryOut(x, "t1a0a1;t2b0b1;f12;sa0=2;sb1=1;w4;pa0;pb0", 10);
        return x;
    }

    private static void same(String call, String got, String want) {
        DUE.is(call, got.equals(want) ? 1 : 0, 1);
    }

    private static int change(Counted x, int which) {
        switch (which) {
            case 0: return x.set(WarmProbes.POWER, 50);
            case 1: return x.set(WarmProbes.DOUBT, 9);
            case 2: return x.track(7, 7, 3);
            case 3: return x.touch(1, 0, 2);
            case 4: return x.mend(0);
            case 5: return x.feed(1, 2);
            case 6: return x.cool();
            case 7: return x.warm(5);
            case 8: return x.probe(1, 1);
            case 9: return x.restore(0);
            case 10: return x.set(WarmProbes.SPREAD, 24);
            case 11: return x.set(WarmProbes.LOSS, 50);
            default: return x.carryOut();
        }
    }

    /** The warm board with the run of a new one saved in slot 0, and a pad. */
    private static Counted aheadOf(int... changes) {
        Counted x = warmBoard();
        x.cool();
        x.save(0);
        x.undo();
        Due.put(x, "m1;m0;w3;pb0");
        for (int which : changes) {
            change(x, which);
        }
        return x;
    }

    private static void undoOfEachChange() {
        String before = Picture.stateOf(aheadOf());
        for (int which = 0; which <= 12; which++) {
            Counted x = aheadOf();
            DUE.is("changes ahead of " + which, x.count(14), 1);
            DUE.is("change " + which, change(x, which) >= 0 ? 1 : 0, 1);
            DUE.is("changes behind " + which, x.count(14), 2);
            DUE.is("is the same behind " + which, Picture.stateOf(x).equals(before) ? 1 : 0, 0);
            DUE.is("undo " + which, x.undo(), 1);
            same("state behind undo of " + which, Picture.stateOf(x), before);
        }
    }

    private static void undoBringsAllBack() {
        int[] changes = {7, 8, 1, 0, 3, 2};
        String last = "";
        for (int undone = 0; undone <= 6; undone++) {
            Counted x = warmBoard();
            for (int which : changes) {
                change(x, which);
            }
            for (int i = 5; i >= 6 - undone; i--) {
                DUE.is("undo " + i, x.undo(), i);
            }
            Counted fresh = warmBoard();
            for (int i = 0; i < 6 - undone; i++) {
                change(fresh, changes[i]);
            }
            same("back at " + (6 - undone), Picture.stateOf(x), Picture.stateOf(fresh));
            last = Picture.stateOf(x);
        }
        Counted x = warmBoard();
        for (int which : changes) {
            change(x, which);
        }
        for (int i = 0; i < 6; i++) {
            x.undo();
        }
        DUE.is("no more", x.undo(), WarmProbes.NOT_POSSIBLE);
        same("and nothing is different", Picture.stateOf(x), last);
        DUE.is("a change goes on from there", x.warm(1), 5);
        DUE.is("and can be undone", x.undo(), 0);
    }

    private static void undoKeepsPadAndSlots() {
        Counted x = warmBoard();
        x.mend(0);
        Due.put(x, "w1");
        x.save(1);
        x.undo();
        DUE.is("the pad", x.count(13), 2);
        DUE.is("touches", x.count(1), 2);
        DUE.is("the slot", x.restore(1), 1);
    }

    private static void sixStates() {
        Counted x = new Counted();
        for (int i = 1; i <= 9; i++) {
            x.warm(i);
            DUE.is("changes", x.count(14), Math.min(i, 6));
        }
        int steps = 45;
        for (int i = 9; i >= 4; i--) {
            steps -= i;
            DUE.is("undo", x.undo(), i - 4);
            DUE.is("steps", x.count(0), steps);
        }
        DUE.is("no more", x.undo(), WarmProbes.NOT_POSSIBLE);
        DUE.is("steps then", x.count(0), 6);
    }

    private static void errorsRecordNothing() {
        Counted x = warmBoard();
        x.set(9, 9);
        x.track(0, 0, 1);
        x.touch(0, 0, 2);
        x.mend(2);
        x.feed(1, 1);
        x.warm(0);
        x.probe(8, 8);
        x.carryOut();
        x.restore(0);
        x.restore(2);
        x.save(2);
        DUE.is("changes", x.count(14), 1);
        x.save(0);
        x.put('a');
        x.wipe();
        x.fault();
        x.bestProbe(0);
        DUE.is("what is no change", x.count(14), 1);
        x.set(WarmProbes.DOUBT, 3);
        DUE.is("a change without a difference", x.count(14), 2);
    }

    private static void save() {
        Counted x = warmBoard();
        for (int slot : NO_SLOTS) {
            DUE.is("save no slot", x.save(slot), WarmProbes.BAD_VALUE);
        }
        DUE.is("save", x.save(0), 2);
        x.mend(0);
        DUE.is("save in the other", x.save(1), 1);
        DUE.is("restore", x.restore(0), 2);
        x.mend(0);
        x.mend(0);
        DUE.is("save over", x.save(0), 0);
        DUE.is("restore what was saved last", x.restore(0), 0);
        DUE.is("the other keeps", x.restore(1), 1);
    }

    private static void restore() {
        Counted x = warmBoard();
        for (int slot : NO_SLOTS) {
            DUE.is("restore no slot", x.restore(slot), WarmProbes.BAD_VALUE);
        }
        DUE.is("nothing saved 0", x.restore(0), WarmProbes.NOT_POSSIBLE);
        DUE.is("nothing saved 1", x.restore(1), WarmProbes.NOT_POSSIBLE);
        x.save(1);
        DUE.is("nothing saved in 0 still", x.restore(0), WarmProbes.NOT_POSSIBLE);
        String before = Picture.stateOf(x);
        for (int which = 0; which <= 8; which++) {
            Counted y = warmBoard();
            y.save(1);
            change(y, which);
            Due.put(y, "w1");
            DUE.is("restore behind " + which, y.restore(1), 2);
            same("restored behind " + which, Picture.stateOf(y), before);
            DUE.is("the pad stays", y.count(13), 2);
        }
    }

    private static void restoreIsAChange() {
        Counted x = warmBoard();
        x.save(0);
        x.warm(1);
        DUE.is("changes", x.count(14), 2);
        DUE.is("restore", x.restore(0), 2);
        DUE.is("the history goes on", x.count(14), 3);
        DUE.is("undo of restore", x.undo(), 2);
        DUE.is("steps", x.count(0), 5);
        DUE.is("undo ahead of it", x.undo(), 1);
        DUE.is("steps ahead of it", x.count(0), 4);
        x.undo();
        DUE.is("the slot keeps", x.restore(0), 2);
    }

    private static void slotsAreCopies() {
        Counted x = warmBoard();
        x.save(0);
        String saved = Picture.stateOf(x);
        x.restore(0);
        x.warm(9);
        x.probe(0, 0);
        x.mend(1);
        x.restore(0);
        same("the slot was not changed", Picture.stateOf(x), saved);
    }
}
