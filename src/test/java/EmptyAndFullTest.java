/** The empty and the full: touches, readings, steps of a run, pad, history, slots, board. */
public final class EmptyAndFullTest {
    private static final Due DUE = new Due();
    private static final int NO_SUCH = -1, BAD_VALUE = -2, BAD_TEXT = -3, TOO_MANY = -4, NOT_POSSIBLE = -5, NONE = -6;

    public static void main(String[] args) {
        emptyObject();
        noneIsNoError();
        touches();
        oneTouchAtAPlace();
        mendEachOfThree();
        readings();
        readingsOfTexts();
        steps();
        stepsOfTexts();
        pad();
        padOfOnesAndEights();
        history();
        historyRound();
        historyOfTexts();
        textsUpToEachError();
        historyOfEachChange();
        everythingComesBack();
        slots();
        emptySlotBehindUndo();
        fullBoard();
        pairs();
        allCalls();
        DUE.end();
    }

    /** "Creates a board without tracks." */
    private static void emptyObject() {
        Counted x = new Counted();
        for (int row = 0; row < 8; row++) {
            for (int what = 0; what <= 2; what++) {
                DUE.is("row " + row + " " + what, x.row(row, what), 0);
            }
        }
        for (int place = 0; place < 64; place++) {
            int[] want = {0, 0, 0, 0, 0, 0, NONE};
            int what = place % 7;
            DUE.is("at " + place + " " + what, x.at(place / 8, place % 8, what), want[what]);
        }
        for (int net = 1; net <= 7; net++) {
            for (int what = 0; what <= 2; what++) {
                DUE.is("ofNet " + net + " " + what, x.ofNet(net, what), 0);
            }
        }
        int[] counts = {0, 0, 0, 0, 0, 0, 0, 0, 0, 15, 5, 20, 3, 0, 0};
        for (int what = 0; what < counts.length; what++) {
            DUE.is("count " + what, x.count(what), counts[what]);
        }
        DUE.is("mean", x.mean(), 0);
        DUE.is("readsIn", x.readsIn(7, 7, 1), NONE);
        DUE.is("bestProbe", x.bestProbe(0), NONE);
        DUE.is("wouldRead", x.wouldRead(0, 0, 0, 0), NO_SUCH);
        DUE.is("cool", x.cool(), 0);
        DUE.is("warm", x.warm(50), 50);
        DUE.is("cold still", x.mean(), 0);
        DUE.is("probe", x.probe(0, 0), 0);
        DUE.is("save", x.save(1), 0);
        DUE.is("restore", x.restore(1), 0);
    }

    /** "NONE (-6) is not an error; it is returned only if no error applies." */
    private static void noneIsNoError() {
        Counted x = new Counted();
        DUE.is("at 6", x.at(0, 0, 6), NONE);
        DUE.is("at 6 off the board", x.at(0, 8, 6), NO_SUCH);
        DUE.is("bestProbe", x.bestProbe(1), NONE);
        DUE.is("bestProbe of no what", x.bestProbe(2), BAD_VALUE);
        DUE.is("readsIn", x.readsIn(0, 0, 9999), NONE);
        DUE.is("readsIn off the board", x.readsIn(8, 0, 9999), NO_SUCH);
        DUE.is("readsIn of no read", x.readsIn(0, 0, 10000), BAD_VALUE);
        Due.put(x, "w1");
        DUE.is("fault", x.fault(), NONE);
        DUE.is("nothing is recorded", x.count(14), 0);
        DUE.is("carryOut", x.carryOut(), 1);
    }

    /** "There are up to 3 touches"; "TOO_MANY if there are 3 touches". */
    private static void touches() {
        Counted x = Scenes.board();
        DUE.is("none", x.count(1), 0);
        DUE.is("the first", x.touch(3, 1, 1), 0);
        DUE.is("the second", x.touch(0, 0, 2), 1);
        DUE.is("the third", x.touch(2, 0, 2), 2);
        DUE.is("three", x.count(1), 3);
        DUE.is("a fourth", x.touch(1, 0, 2), TOO_MANY);
        DUE.is("a fourth, by a text", textOf(x, "s" + "b0=1;w1"), 0);
        DUE.is("three still", x.count(1), 3);
        DUE.is("mend", x.mend(1), 2);
        DUE.is("a third again", x.touch(1, 0, 2), 2);
        int[] places = {25, 16, 8};
        for (int i = 0; i < 3; i++) {
            DUE.is("place of " + i, x.ofTouch(i, 0), places[i]);
            DUE.is("number at " + places[i], x.at(places[i] / 8, places[i] % 8, 6), i);
        }
        DUE.is("none is at the place of the mended one", x.at(0, 0, 6), NONE);
        DUE.is("full again", x.touch(0, 0, 2), TOO_MANY);
        DUE.is("one less by undo", x.undo(), 5);
        DUE.is("a third once more", x.touch(0, 0, 2), 2);
    }

    private static int textOf(Counted x, String text) {
        Due.put(x, text);
        return x.carryOut();
    }

    /** "at most one at a place". */
    private static void oneTouchAtAPlace() {
        Counted x = new Counted();
        Due.carryOut(x, "t1b1;t2a1;t3c1;t4b0;t5b2", 5);
        DUE.is("with 2", x.touch(1, 1, 2), 0);
        for (int net = 2; net <= 5; net++) {
            DUE.is("at the same place with " + net, x.touch(1, 1, net), NOT_POSSIBLE);
        }
        DUE.is("at the neighbour", x.touch(1, 0, 1), 1);
        DUE.is("mend", x.mend(0), 1);
        DUE.is("with another net then", x.touch(1, 1, 5), 1);
        DUE.is("its other net", x.ofTouch(1, 2), 5);
    }

    /** "when one is mended, those behind it have numbers that are less by 1". */
    private static void mendEachOfThree() {
        int[][] left = {{8, 16}, {0, 16}, {0, 8}};
        for (int touch = 0; touch < 3; touch++) {
            Counted x = Scenes.board();
            Due.carryOut(x, "sa0=2;sa1=2;sa2=2", 3);
            DUE.is("mend " + touch, x.mend(touch), 2);
            for (int i = 0; i < 2; i++) {
                DUE.is("place of " + i + " behind mend " + touch, x.ofTouch(i, 0), left[touch][i]);
            }
            DUE.is("no third behind mend " + touch, x.ofTouch(2, 0), NO_SUCH);
            DUE.is("live behind mend " + touch, x.count(2), 2);
            DUE.is("mend the second", x.mend(1), 1);
            DUE.is("mend the second again", x.mend(1), NO_SUCH);
            DUE.is("mend the first", x.mend(0), 0);
            DUE.is("mend the first again", x.mend(0), NO_SUCH);
        }
    }

    /** "There are up to 8 readings of a run"; "TOO_MANY if the run has 8 readings". */
    private static void readings() {
        Counted x = Scenes.board();
        for (int i = 0; i < 8; i++) {
            DUE.is("readings " + i, x.count(3), i);
            DUE.is("probe " + i, x.probe(i, 7 - i), 0);
        }
        DUE.is("eight", x.count(3), 8);
        DUE.is("a ninth", x.probe(0, 0), TOO_MANY);
        DUE.is("eight still", x.count(3), 8);
        DUE.is("the last", x.reading(7, 0), 56);
        x.warm(1);
        DUE.is("a ninth, later", x.probe(0, 0), TOO_MANY);
        x.undo();
        DUE.is("one less by undo", x.undo(), 4);
        DUE.is("seven", x.count(3), 7);
        DUE.is("an eighth again", x.probe(4, 4), 0);
        DUE.is("its place", x.reading(7, 0), 36);
        DUE.is("a ninth again", x.probe(4, 4), TOO_MANY);
        x.cool();
        DUE.is("none", x.count(3), 0);
        DUE.is("no first", x.reading(0, 0), NO_SUCH);
        DUE.is("a first", x.probe(1, 2), 0);
        DUE.is("its place", x.reading(0, 0), 10);
    }

    private static void readingsOfTexts() {
        Counted x = Scenes.board();
        DUE.is("eight of nine", textOf(x, "pa0;pb0;pc0;pd0;pe0;pf0;pg0;ph0;pa1;w1"), 8);
        DUE.is("readings", x.count(3), 8);
        DUE.is("nothing behind the ninth", x.count(0), 0);
        DUE.is("none of one", textOf(x, "pa0"), 0);
    }

    /** "NOT_POSSIBLE if they would be above 100". */
    private static void steps() {
        for (int before = 50; before <= 100; before++) {
            Counted x = new Counted();
            x.warm(50);
            if (before > 50) {
                x.warm(before - 50);
            }
            int left = 100 - before;
            if (left < 50) {
                DUE.is("one too many behind " + before, x.warm(left + 1), NOT_POSSIBLE);
                DUE.is("fifty behind " + before, x.warm(50), NOT_POSSIBLE);
            }
            DUE.is("steps " + before, x.count(0), before);
            if (left > 0) {
                DUE.is("all that are left behind " + before, x.warm(left), 100);
            }
            DUE.is("none are left", x.warm(1), NOT_POSSIBLE);
            DUE.is("cool", x.cool(), 100);
            DUE.is("again", x.warm(50), 50);
        }
    }

    private static void stepsOfTexts() {
        Counted x = new Counted();
        DUE.is("100 steps", textOf(x, "w50;w50"), 2);
        DUE.is("no more", textOf(x, "w1"), 0);
        x.cool();
        DUE.is("1 to 50, not 51", textOf(x, "w50;w51"), 1);
        DUE.is("not 0", textOf(x, "w0"), 0);
        DUE.is("49 and not 51", textOf(x, "w49;w2;w1"), 1);
        DUE.is("nothing behind it", x.count(0), 99);
        x.cool();
        DUE.is("99", textOf(x, "w49;w50"), 2);
        DUE.is("not 101", textOf(x, "w2"), 0);
        DUE.is("100", textOf(x, "w1"), 1);
        DUE.is("steps", x.count(0), 100);
    }

    /** "a text of at most 80 characters"; "TOO_MANY if the pad would be longer than 80". */
    private static void pad() {
        String put = "a".repeat(8);
        for (int many = 1; many <= 8; many++) {
            Counted x = new Counted();
            for (int length = 8; length <= 72; length += 8) {
                DUE.is("put to " + length, x.put(Due.characters(put)), length);
            }
            for (int i = 0; i < 8 - many; i++) {
                x.put('b');
            }
            DUE.is("one too many for " + many, many == 8 ? TOO_MANY : x.put(Due.characters(put.substring(0, many + 1))),
                TOO_MANY);
            DUE.is("the length stays", x.count(13), 80 - many);
            DUE.is("just enough for " + many, x.put(Due.characters(put.substring(0, many))), 80);
            DUE.is("full", x.put('a'), TOO_MANY);
            DUE.is("full for eight", x.put(Due.characters(put)), TOO_MANY);
            DUE.is("no character ahead of full", x.put(0L), BAD_VALUE);
            DUE.is("wipe", x.wipe(), 80);
            DUE.is("wipe the empty one", x.wipe(), 0);
            DUE.is("empty", x.count(13), 0);
            DUE.is("put again", x.put('c'), 1);
        }
    }

    private static void padOfOnesAndEights() {
        Counted x = new Counted();
        DUE.is("fault of the empty one", x.fault(), 0);
        DUE.is("carryOut of the empty one", x.carryOut(), BAD_TEXT);
        for (int i = 1; i <= 80; i++) {
            DUE.is("put " + i, x.put(i == 1 ? 't' : i == 2 ? '1' : i % 2 == 1 ? 'h' : '7'), i);
            DUE.is("fault at " + i, x.fault(), i >= 4 && i % 2 == 0 ? NONE : i);
        }
        DUE.is("put 81", x.put('h'), TOO_MANY);
        DUE.is("carryOut of the full one", x.carryOut(), 39);
        DUE.is("empty", x.count(13), 0);
        DUE.is("carryOut again", x.carryOut(), BAD_TEXT);
        Due.put(x, "w1;".repeat(26) + "w1");
        DUE.is("a full one of many orders", x.count(13), 80);
        DUE.is("no fault", x.fault(), NONE);
        DUE.is("27 orders", x.carryOut(), 27);
        DUE.is("27 steps", x.count(0), 27);
        Due.put(x, "w1;".repeat(26) + "w;");
        DUE.is("fault of the last character", x.fault(), 79);
        Due.put(x, "w1;".repeat(26) + "w");
        DUE.is("too early at 79", x.fault(), 79);
        Due.put(x, "w1;".repeat(26) + "f1");
        DUE.is("too early at 80", x.fault(), 80);
        Due.put(x, "f123" + "w1;".repeat(25));
        DUE.is("the first of a long one", x.fault(), 3);
    }

    /** "A history of at most 6 states is kept"; "when one more is recorded, the oldest one is dropped". */
    private static void history() {
        for (int changes = 0; changes <= 14; changes++) {
            Counted x = new Counted();
            for (int i = 1; i <= changes; i++) {
                x.warm(i == 14 ? 9 : 1 + i % 3);
            }
            int kept = changes < 6 ? changes : 6;
            DUE.is("kept of " + changes, x.count(14), kept);
            int steps = x.count(0);
            for (int i = changes; i > changes - kept; i--) {
                DUE.is("undo " + i, x.undo(), i - 1 - (changes - kept));
                steps -= i == 14 ? 9 : 1 + i % 3;
                DUE.is("steps ahead of change " + i, x.count(0), steps);
            }
            DUE.is("no more of " + changes, x.undo(), NOT_POSSIBLE);
            DUE.is("steps stay", x.count(0), steps);
            DUE.is("none are kept", x.count(14), 0);
        }
    }

    /** Changes and undos by turns, so that what is dropped and what is brought back goes round more than once. */
    private static void historyRound() {
        Counted x = new Counted();
        java.util.ArrayList<Integer> before = new java.util.ArrayList<>();
        int value = 3;
        for (int i = 0; i < 90; i++) {
            if (i % 7 < 4 || before.isEmpty()) {
                DUE.is("set " + i, x.set(WarmProbes.DOUBT, (5 * i + 1) % 100), value);
                before.add(value);
                value = (5 * i + 1) % 100;
                if (before.size() > 6) {
                    before.remove(0);
                }
            } else {
                value = before.remove(before.size() - 1);
                DUE.is("undo " + i, x.undo(), before.size());
            }
            DUE.is("value " + i, x.count(12), value);
            DUE.is("changes " + i, x.count(14), before.size());
        }
    }

    /** "This is a change (one, with all of them; also if none is carried out)." */
    private static void historyOfTexts() {
        Counted x = new Counted();
        for (int i = 1; i <= 8; i++) {
            DUE.is("two orders " + i, textOf(x, "w1;w2"), 2);
            DUE.is("one change " + i, x.count(14), i < 6 ? i : 6);
        }
        DUE.is("none carried out", textOf(x, "w0"), 0);
        DUE.is("six still", x.count(14), 6);
        DUE.is("undo of none", x.undo(), 5);
        DUE.is("nothing was different", x.count(0), 24);
        DUE.is("undo of two", x.undo(), 4);
        DUE.is("both are undone", x.count(0), 21);
        DUE.is("the first one carried out", textOf(x, "w5;w0;w1"), 1);
        DUE.is("steps", x.count(0), 26);
        DUE.is("undo of the first one", x.undo(), 4);
        DUE.is("it is undone", x.count(0), 21);
    }

    /** "up to the first one that returns an error, and empties the pad": each error that an order can have. */
    private static void textsUpToEachError() {
        String[] refused = {"t1a8", "t1h9", "t8a0", "t9a0", "t3a0", "t3b0", "f01", "f10", "f18", "f91", "f11", "f77",
            "sa8=1", "sa0=0", "sa0=8", "sa0=9", "sa0=2", "sh7=1", "sa1=3", "m1", "m9", "w0", "w51", "w99", "pa8",
            "ph9"};
        for (String order : refused) {
            for (int ahead = 0; ahead <= 2; ahead++) {
                Counted x = Scenes.board();
                x.touch(0, 0, 2);
                DUE.is("orders ahead of " + order, textOf(x, "w1;".repeat(ahead) + order + ";w7;t1h7"), ahead);
                DUE.is("steps by those ahead of " + order, x.count(0), ahead);
                DUE.is("no track by the one behind " + order, x.at(7, 7, 0), 0);
                DUE.is("the pad is empty behind " + order, x.count(13), 0);
                DUE.is("one change behind " + order, x.count(14), 3);
            }
        }
        String[] full = {"sa0=2;sa1=2;sa2=2;sa3=2;w1", "pa0;pa0;pa0;pa0;pa0;pa0;pa0;pa0;pa0;w1", "w50;w50;w1;pa0"};
        int[] done = {3, 8, 2};
        for (int i = 0; i < full.length; i++) {
            DUE.is("orders of " + full[i], textOf(Scenes.board(), full[i]), done[i]);
        }
        Counted x = Scenes.board();
        DUE.is("each place is an order of its own", textOf(x, "t3c0d0e8f0;w1"), 2);
        DUE.is("up to the wrong one", x.row(0, 0), 15);
        DUE.is("all of them", textOf(x, "t3e0f0;w1"), 3);
        DUE.is("tracks", x.row(0, 0), 63);
        DUE.is("a place twice", textOf(x, "t4h0h0h0"), 3);
        DUE.is("none is at the touch's place", textOf(x, "sa0=2;t1a0c0"), 1);
        DUE.is("nothing behind it", x.at(0, 2, 0), 3);
    }

    /** "each method that is a change, and returns no error, records the state before it". */
    private static void historyOfEachChange() {
        Picture.Call[] changes = {x -> x.set(WarmProbes.DOUBT, 3), x -> x.set(WarmProbes.LOSS, 5),
            x -> x.track(7, 7, 0), x -> x.touch(1, 0, 2), x -> x.mend(1), x -> x.feed(1, 2), x -> x.cool(),
            x -> x.warm(1), x -> x.probe(0, 0), x -> x.restore(0), x -> x.carryOut()};
        String before = Picture.stateOf(Scenes.busy());
        for (int i = 0; i < changes.length; i++) {
            Counted x = Scenes.busy();
            DUE.is("change " + i, changes[i].on(x) >= 0 ? 1 : 0, 1);
            DUE.is("is recorded " + i, x.count(14), 5);
            DUE.is("undo " + i, x.undo(), 4);
            DUE.is("what was before it " + i, Picture.stateOf(x).equals(before) ? 1 : 0, 1);
            Counted y = Scenes.busy();
            for (int k = 0; k < 7; k++) {
                y.set(WarmProbes.DOUBT, k);
            }
            Due.put(y, "w1");
            changes[i].on(y);
            DUE.is("of a full history the oldest is dropped " + i, y.count(14), 6);
            for (int k = 5; k >= 0; k--) {
                DUE.is("undo " + i + " " + k, y.undo(), k);
                DUE.is("doubt " + i + " " + k, y.count(12), k + 1);
            }
            DUE.is("no more " + i, y.undo(), NOT_POSSIBLE);
        }
    }

    /** "everything except the pad, the slots and the history is as it was": each place, each net, the last ones too. */
    private static void everythingComesBack() {
        for (int place = 0; place < 64; place++) {
            Counted x = new Counted();
            x.save(0);
            x.track(place / 8, place % 8, 7);
            x.save(1);
            DUE.is("undo of track " + place, x.undo(), 0);
            DUE.is("no track at " + place, x.at(place / 8, place % 8, 0), 0);
            x.restore(1);
            DUE.is("a track at " + place, x.at(place / 8, place % 8, 0), 7);
            x.restore(0);
            DUE.is("no track again at " + place, x.at(place / 8, place % 8, 0), 0);
        }
        for (int net = 1; net <= 7; net++) {
            for (int other = 1; other <= 7; other++) {
                if (net != other) {
                    Counted x = new Counted();
                    x.save(0);
                    x.feed(net, other);
                    x.save(1);
                    DUE.is("undo of feed", x.undo(), 0);
                    DUE.is("no pair of " + net + " and " + other, x.ofNet(net, 1) + x.ofNet(other, 1), 0);
                    x.restore(1);
                    DUE.is("a pair of " + net + " with " + other, x.ofNet(net, 1), 1 << other);
                    DUE.is("a pair of " + other + " with " + net, x.ofNet(other, 1), 1 << net);
                    x.restore(0);
                    DUE.is("no pair again of " + net + " and " + other, x.ofNet(net, 1) + x.ofNet(other, 1), 0);
                }
            }
        }
        fullStateComesBack();
    }

    private static void fullStateComesBack() {
        String full = Picture.stateOf(Scenes.full());
        Counted x = Scenes.full();
        x.save(0);
        x.mend(0);
        x.feed(1, 2);
        x.probe(7, 7);
        DUE.is("restore of a full state", x.restore(0), 3);
        DUE.is("is as it was", Picture.stateOf(x).equals(full) ? 1 : 0, 1);
        Counted y = Scenes.full();
        y.mend(2);
        for (int i = 0; i < 4; i++) {
            y.probe(i, i);
        }
        for (int i = 0; i < 5; i++) {
            y.undo();
        }
        DUE.is("undo to a full state", Picture.stateOf(y).equals(full) ? 1 : 0, 1);
    }

    /** "NOT_POSSIBLE if nothing was saved in it"; "overwrites what was saved there". */
    private static void slots() {
        for (int slot = 0; slot <= 1; slot++) {
            Counted x = Scenes.board();
            int other = 1 - slot;
            DUE.is("empty " + slot, x.restore(slot), NOT_POSSIBLE);
            DUE.is("save none " + slot, x.save(slot), 0);
            DUE.is("the other is empty " + slot, x.restore(other), NOT_POSSIBLE);
            Due.carryOut(x, "sa0=2;sa1=2;sa2=2", 3);
            DUE.is("save three in the other " + slot, x.save(other), 3);
            DUE.is("restore none " + slot, x.restore(slot), 0);
            DUE.is("no touches " + slot, x.count(1), 0);
            DUE.is("restore three " + slot, x.restore(other), 3);
            DUE.is("touches " + slot, x.count(1), 3);
            x.mend(0);
            DUE.is("save over " + slot, x.save(slot), 2);
            x.mend(0);
            DUE.is("restore two " + slot, x.restore(slot), 2);
            DUE.is("restore two again " + slot, x.restore(slot), 2);
            DUE.is("the other keeps three " + slot, x.restore(other), 3);
        }
    }

    /** What was saved stays when the changes ahead of it are undone; what was not saved is not there by undo. */
    private static void emptySlotBehindUndo() {
        Counted x = new Counted();
        x.warm(5);
        x.save(0);
        x.undo();
        DUE.is("undo does not empty the slot", x.restore(0), 0);
        DUE.is("what was saved", x.count(0), 5);
        DUE.is("undo of restore", x.undo(), 0);
        DUE.is("steps", x.count(0), 0);
        DUE.is("the other one is empty still", x.restore(1), NOT_POSSIBLE);
        DUE.is("an error is no change", x.count(14), 0);
    }

    private static void fullBoard() {
        Counted x = Scenes.checkered();
        for (int row = 0; row < 8; row++) {
            for (int what = 0; what <= 2; what++) {
                DUE.is("row " + row + " " + what, x.row(row, what), 255);
            }
        }
        DUE.is("tracks", x.count(4), 64);
        DUE.is("suspects", x.count(5), 64);
        DUE.is("could be the touch", x.count(6), 64);
        DUE.is("pairs", x.count(7), 2016);
        DUE.is("places of 1", x.ofNet(1, 0), 32);
        DUE.is("places of 2", x.ofNet(2, 0), 32);
        DUE.is("cold: one number", x.bestProbe(1), 1);
        x.warm(50);
        DUE.is("fifty steps: many numbers", x.bestProbe(1) > 20 ? 1 : 0, 1);
    }

    /** "Each two unlike nets are a pair that is fed, or not (at first)." */
    private static void pairs() {
        Counted x = new Counted();
        for (int net = 1; net <= 7; net++) {
            for (int other = net + 1; other <= 7; other++) {
                DUE.is("feed " + net + " " + other, x.feed(net, other), 1);
            }
        }
        for (int net = 1; net <= 7; net++) {
            DUE.is("all pairs of " + net, x.ofNet(net, 1), 254 - (1 << net));
        }
        for (int net = 7; net >= 1; net--) {
            for (int other = net - 1; other >= 1; other--) {
                DUE.is("not any more " + net + " " + other, x.feed(net, other), 0);
            }
        }
        for (int net = 1; net <= 7; net++) {
            DUE.is("no pairs of " + net, x.ofNet(net, 1), 0);
        }
    }

    /** "An object is used for at most 512 calls": the last one is answered as the others. */
    private static void allCalls() {
        Counted x = new Counted();
        for (int i = 0; i < 255; i++) {
            DUE.is("set " + i, x.set(WarmProbes.DOUBT, i % 100), i == 0 ? 3 : (i - 1) % 100);
            DUE.is("changes " + i, x.count(14), i < 5 ? i + 1 : 6);
        }
        DUE.is("the 511th call", x.undo(), 5);
        DUE.is("the 512th call", x.count(12), 253 % 100);
    }
}
