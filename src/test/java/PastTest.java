/** Promises 24 to 26: undo, saving and the constants. */
public final class PastTest {
    private static final Due DUE = new Due();
    private static final int[] NO_SLOTS = {-1, 2, Integer.MIN_VALUE, Integer.MAX_VALUE};

    public static void main(String[] args) {
        constants();
        undoOfEachChange();
        undoBringsAllBack();
        undoKeepsPadAndSlots();
        sixStates();
        errorsRecordNothing();
        save();
        restore();
        restoreIsAChange();
        slotsAreCopies();
        DUE.end();
    }

    private static void constants() {
        DUE.is("NO_SUCH", WarmProbes.NO_SUCH, -1);
        DUE.is("BAD_VALUE", WarmProbes.BAD_VALUE, -2);
        DUE.is("BAD_TEXT", WarmProbes.BAD_TEXT, -3);
        DUE.is("TOO_MANY", WarmProbes.TOO_MANY, -4);
        DUE.is("NOT_POSSIBLE", WarmProbes.NOT_POSSIBLE, -5);
        DUE.is("NONE", WarmProbes.NONE, -6);
        DUE.is("SPREAD", WarmProbes.SPREAD, 0);
        DUE.is("LOSS", WarmProbes.LOSS, 1);
        DUE.is("POWER", WarmProbes.POWER, 2);
        DUE.is("DOUBT", WarmProbes.DOUBT, 3);
    }

    private static WarmProbes warmBoard() {
        WarmProbes x = new WarmProbes();
        Due.carryOut(x, "t1a0a1;t2b0b1;f12;sa0=2;sb1=1;w4;pa0;pb0", 10);
        return x;
    }

    /** All that undo and the slots bring back, as a text. */
    private static String stateOf(WarmProbes x) {
        StringBuilder state = new StringBuilder();
        for (int place = 0; place < 64; place++) {
            for (int what = 0; what <= 6; what++) {
                state.append(x.at(place / 8, place % 8, what)).append(' ');
            }
        }
        for (int what = 0; what <= 12; what++) {
            state.append(x.count(what)).append(' ');
        }
        for (int i = 0; i < 8; i++) {
            for (int what = 0; what <= 3; what++) {
                state.append(x.ofTouch(i, what)).append(' ').append(x.reading(i, what)).append(' ');
                state.append(x.ofNet(i, what)).append(' ');
            }
        }
        return state.toString();
    }

    private static void same(String call, String got, String want) {
        DUE.is(call, got.equals(want) ? 1 : 0, 1);
    }

    private static int change(WarmProbes x, int which) {
        switch (which) {
            case 0: return x.set(WarmProbes.POWER, 50);
            case 1: return x.set(WarmProbes.DOUBT, 9);
            case 2: return x.track(7, 7, 3);
            case 3: return x.touch(1, 0, 2);
            case 4: return x.mend(0);
            case 5: return x.feed(1, 2);
            case 6: return x.cool();
            case 7: return x.warm(5);
            case 8: return x.probe(1, 1);
            case 9: return x.restore(0);
            case 10: return x.set(WarmProbes.SPREAD, 24);
            case 11: return x.set(WarmProbes.LOSS, 50);
            default: return x.carryOut();
        }
    }

    private static void undoOfEachChange() {
        for (int which = 0; which <= 12; which++) {
            WarmProbes x = warmBoard();
            x.cool();
            x.save(0);
            x.undo();
            Due.put(x, "m1;m0;w3;pb0");
            String before = stateOf(x);
            DUE.is("changes ahead of " + which, x.count(14), 1);
            DUE.is("change " + which, change(x, which) >= 0 ? 1 : 0, 1);
            DUE.is("changes behind " + which, x.count(14), 2);
            same("is different behind " + which, stateOf(x).equals(before) ? "same" : "other", "other");
            DUE.is("undo " + which, x.undo(), 1);
            same("state behind undo of " + which, stateOf(x), before);
        }
    }

    private static void undoBringsAllBack() {
        WarmProbes x = warmBoard();
        String[] before = new String[6];
        int[] changes = {7, 8, 1, 0, 3, 2};
        for (int i = 0; i < 6; i++) {
            before[i] = stateOf(x);
            change(x, changes[i]);
        }
        for (int i = 5; i >= 0; i--) {
            DUE.is("undo", x.undo(), i);
            same("back at " + i, stateOf(x), before[i]);
        }
        DUE.is("no more", x.undo(), WarmProbes.NOT_POSSIBLE);
        same("and nothing is different", stateOf(x), before[0]);
        DUE.is("a change goes on from there", x.warm(1), 5);
        DUE.is("and can be undone", x.undo(), 0);
    }

    private static void undoKeepsPadAndSlots() {
        WarmProbes x = warmBoard();
        x.mend(0);
        Due.put(x, "w1");
        x.save(1);
        x.undo();
        DUE.is("the pad", x.count(13), 2);
        DUE.is("touches", x.count(1), 2);
        DUE.is("the slot", x.restore(1), 1);
    }

    private static void sixStates() {
        WarmProbes x = new WarmProbes();
        for (int i = 1; i <= 9; i++) {
            x.warm(i);
            DUE.is("changes", x.count(14), Math.min(i, 6));
        }
        int steps = 45;
        for (int i = 9; i >= 4; i--) {
            steps -= i;
            DUE.is("undo", x.undo(), i - 4);
            DUE.is("steps", x.count(0), steps);
        }
        DUE.is("no more", x.undo(), WarmProbes.NOT_POSSIBLE);
        DUE.is("steps then", x.count(0), 6);
    }

    private static void errorsRecordNothing() {
        WarmProbes x = warmBoard();
        x.set(9, 9);
        x.track(0, 0, 1);
        x.touch(0, 0, 2);
        x.mend(2);
        x.feed(1, 1);
        x.warm(0);
        x.probe(8, 8);
        x.carryOut();
        x.restore(0);
        x.restore(2);
        x.save(2);
        DUE.is("changes", x.count(14), 1);
        x.save(0);
        x.put('a');
        x.wipe();
        x.fault();
        x.bestProbe(0);
        DUE.is("what is no change", x.count(14), 1);
        x.set(WarmProbes.DOUBT, 3);
        DUE.is("a change without a difference", x.count(14), 2);
    }

    private static void save() {
        WarmProbes x = warmBoard();
        for (int slot : NO_SLOTS) {
            DUE.is("save no slot", x.save(slot), WarmProbes.BAD_VALUE);
        }
        DUE.is("save", x.save(0), 2);
        x.mend(0);
        DUE.is("save in the other", x.save(1), 1);
        DUE.is("restore", x.restore(0), 2);
        x.mend(0);
        x.mend(0);
        DUE.is("save over", x.save(0), 0);
        DUE.is("restore what was saved last", x.restore(0), 0);
        DUE.is("the other keeps", x.restore(1), 1);
    }

    private static void restore() {
        WarmProbes x = warmBoard();
        for (int slot : NO_SLOTS) {
            DUE.is("restore no slot", x.restore(slot), WarmProbes.BAD_VALUE);
        }
        DUE.is("nothing saved 0", x.restore(0), WarmProbes.NOT_POSSIBLE);
        DUE.is("nothing saved 1", x.restore(1), WarmProbes.NOT_POSSIBLE);
        String before = stateOf(x);
        x.save(1);
        DUE.is("nothing saved in 0 still", x.restore(0), WarmProbes.NOT_POSSIBLE);
        for (int which = 0; which <= 8; which++) {
            change(x, which);
            Due.put(x, "w1");
            DUE.is("restore behind " + which, x.restore(1), 2);
            same("restored behind " + which, stateOf(x), before);
            DUE.is("the pad stays", x.count(13), 2);
        }
    }

    private static void restoreIsAChange() {
        WarmProbes x = warmBoard();
        x.save(0);
        x.warm(1);
        DUE.is("changes", x.count(14), 2);
        DUE.is("restore", x.restore(0), 2);
        DUE.is("the history goes on", x.count(14), 3);
        DUE.is("undo of restore", x.undo(), 2);
        DUE.is("steps", x.count(0), 5);
        DUE.is("undo ahead of it", x.undo(), 1);
        DUE.is("steps ahead of it", x.count(0), 4);
        x.undo();
        DUE.is("the slot keeps", x.restore(0), 2);
    }

    private static void slotsAreCopies() {
        WarmProbes x = warmBoard();
        x.save(0);
        String saved = stateOf(x);
        x.restore(0);
        x.warm(9);
        x.probe(0, 0);
        x.mend(1);
        x.restore(0);
        same("the slot was not changed", stateOf(x), saved);
    }
}
