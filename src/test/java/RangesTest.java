/**
 * The least and the greatest value that each argument can have, and the first ones beyond them; and values that would
 * come back into the range if they were folded, as by 8 * row + column or by a shift.
 */
public final class RangesTest {
    private static final Due DUE = new Due();
    private static final int NO_SUCH = -1, BAD_VALUE = -2, NOT_POSSIBLE = -5, NONE = -6;
    private static final int LOW = Integer.MIN_VALUE;
    private static final int HIGH = Integer.MAX_VALUE;
    /** Rows and columns of which one is off the board, but 8 * row + column may be on it. */
    private static final int[][] OFF = {{-1, 0}, {0, -1}, {8, 0}, {0, 8}, {8, 8}, {-1, -1}, {-1, 8}, {8, -1}, {1, -1},
        {7, 8}, {8, -8}, {-8, 64}, {0, 63}, {1 << 29, 0}, {1 << 30, 5}, {LOW, 0}, {0, LOW}, {HIGH, 0}, {0, HIGH},
        {LOW, LOW}, {HIGH, HIGH}, {256, 0}, {0, 256}};
    private static final int[] CORNERS = {0, 7, 56, 63};
    /** Nets that are none, of which some have the last three, or five, bits of one. */
    private static final int[] NO_NETS = {-1, 8, 9, 33, 34, -31, 257, LOW, LOW + 1, HIGH};

    public static void main(String[] args) {
        settings();
        rangesOfSettings();
        placesOfChanges();
        placesOfLooks();
        nets();
        touches();
        readings();
        steps();
        whats();
        readsIn();
        slots();
        characters();
        DUE.end();
    }

    /** "SPREAD = 0, LOSS = 1, POWER = 2, DOUBT = 3"; "BAD_VALUE if there is no such setting". */
    private static void settings() {
        int[] first = {15, 5, 20, 3};
        for (int setting = 0; setting < 4; setting++) {
            DUE.is("setting " + setting, new Counted().set(setting, 9), first[setting]);
        }
        Counted x = new Counted();
        for (int setting : new int[] {-1, 4, 5, 256, -256, LOW, HIGH, 1 << 16}) {
            DUE.is("no setting " + setting, x.set(setting, 9), BAD_VALUE);
        }
        for (int setting = 0; setting < 4; setting++) {
            DUE.is("still " + setting, x.count(9 + setting), first[setting]);
        }
    }

    /** "SPREAD (0 to 24; 15)", "LOSS (0 to 50; 5)", "POWER (1 to 99; 20)", "DOUBT (0 to 99; 3)". */
    private static void rangesOfSettings() {
        int[] least = {0, 0, 1, 0};
        int[] most = {24, 50, 99, 99};
        for (int setting = 0; setting < 4; setting++) {
            Counted x = new Counted();
            int before = x.count(9 + setting);
            for (int value = -300; value <= 300 && value < 100; value++) {
                boolean isTaken = value >= least[setting] && value <= most[setting];
                DUE.is("set " + setting + " " + value, x.set(setting, value), isTaken ? before : BAD_VALUE);
                before = isTaken ? value : before;
            }
            DUE.is("the greatest " + setting, x.count(9 + setting), most[setting]);
            for (int value : new int[] {100, 101, 255, 256, 256 + most[setting], 1 << 16, LOW, LOW + 5, HIGH}) {
                DUE.is("set " + setting + " " + value, x.set(setting, value), BAD_VALUE);
            }
            DUE.is("the least " + setting, x.set(setting, least[setting]), most[setting]);
            DUE.is("the others " + setting, x.count(9 + (setting + 1) % 4), new Counted().count(9 + (setting + 1) % 4));
        }
    }

    /** "The board has 8 rows and 8 columns of places, 0 to 7 each." */
    private static void placesOfChanges() {
        for (int[] off : OFF) {
            Counted x = Scenes.board();
            String place = " " + off[0] + " " + off[1];
            DUE.is("track" + place, x.track(off[0], off[1], 1), NO_SUCH);
            DUE.is("track none" + place, x.track(off[0], off[1], 0), NO_SUCH);
            DUE.is("touch" + place, x.touch(off[0], off[1], 2), NO_SUCH);
            DUE.is("touch other" + place, x.touch(off[0], off[1], 1), NO_SUCH);
            DUE.is("probe" + place, x.probe(off[0], off[1]), NO_SUCH);
            DUE.is("nothing by" + place, x.count(1) + x.count(3), 0);
            DUE.is("no track by" + place, x.count(4), 8);
        }
        Counted x = Scenes.checkered();
        for (int place : CORNERS) {
            int net = x.at(place / 8, place % 8, 0);
            DUE.is("track " + place, x.track(place / 8, place % 8, net), net);
            DUE.is("touch " + place, x.touch(place / 8, place % 8, 3 - net), 0);
            x.warm(1);
            DUE.is("probe " + place, x.probe(place / 8, place % 8), 200);
            DUE.is("place of the reading " + place, x.reading(0, 0), place);
            DUE.is("place of the touch " + place, x.ofTouch(0, 0), place);
            x.mend(0);
        }
    }

    private static void placesOfLooks() {
        Counted x = Scenes.checkered();
        for (int[] off : OFF) {
            String place = " " + off[0] + " " + off[1];
            for (int what = 0; what <= 6; what++) {
                DUE.is("at" + place + " " + what, x.at(off[0], off[1], what), NO_SUCH);
            }
            DUE.is("readsIn" + place, x.readsIn(off[0], off[1], 1), NO_SUCH);
            DUE.is("wouldRead" + place, x.wouldRead(off[0], off[1], 0, 0), NO_SUCH);
            DUE.is("wouldRead by" + place, x.wouldRead(0, 0, off[0], off[1]), NO_SUCH);
        }
        x.touch(7, 7, 2);
        x.warm(1);
        for (int place : CORNERS) {
            int row = place / 8;
            int column = place % 8;
            DUE.is("net of " + place, x.at(row, column, 0), (row + column) % 2 == 0 ? 1 : 2);
            DUE.is("warmth of " + place, x.at(row, column, 2), place == 63 ? 200 : 0);
            DUE.is("readsIn " + place, x.readsIn(row, column, 200), place == 63 ? 0 : NONE);
            DUE.is("wouldRead " + place, x.wouldRead(row, column, row, column), 200);
            DUE.is("wouldRead by another " + place, x.wouldRead(row, column, 3, 3), 0);
        }
        for (int row : new int[] {-1, 8, 256, LOW, HIGH, 1 << 29}) {
            DUE.is("row " + row, x.row(row, 0), NO_SUCH);
        }
        DUE.is("row 0", x.row(0, 0), 255);
        DUE.is("row 7", x.row(7, 0), 255);
    }

    /** "A place has a track of a net, 1 to 7, or none (0; at first)." */
    private static void nets() {
        Counted x = new Counted();
        for (int net : NO_NETS) {
            DUE.is("track net " + net, x.track(0, 0, net), BAD_VALUE);
            DUE.is("touch net " + net, x.touch(0, 0, net), BAD_VALUE);
            DUE.is("feed " + net, x.feed(net, 2), NO_SUCH);
            DUE.is("feed to " + net, x.feed(2, net), NO_SUCH);
            DUE.is("feed twice " + net, x.feed(net, net), NO_SUCH);
            for (int what = 0; what <= 2; what++) {
                DUE.is("ofNet " + net + " " + what, x.ofNet(net, what), NO_SUCH);
            }
        }
        DUE.is("touch net 0", x.touch(0, 0, 0), BAD_VALUE);
        DUE.is("feed 0", x.feed(0, 7), NO_SUCH);
        DUE.is("feed to 0", x.feed(7, 0), NO_SUCH);
        DUE.is("feed 0 twice", x.feed(0, 0), NO_SUCH);
        DUE.is("ofNet 0", x.ofNet(0, 0), NO_SUCH);
        DUE.is("no change so far", x.count(14), 0);
        for (int net = 1; net <= 7; net++) {
            DUE.is("track " + net, x.track(0, 0, net), net - 1);
            DUE.is("places of " + net, x.ofNet(net, 0), 1);
            DUE.is("feed the same " + net, x.feed(net, net), BAD_VALUE);
        }
        DUE.is("track none", x.track(0, 0, 0), 7);
        Due.carryOut(x, "t1a0;t7b0", 2);
        DUE.is("touch with 7", x.touch(0, 0, 7), 0);
        DUE.is("touch with 1", x.touch(0, 1, 1), 1);
        DUE.is("feed 1 and 7", x.feed(1, 7), 1);
        DUE.is("both are live", x.count(2), 2);
        DUE.is("the set of 1", x.ofNet(1, 1), 128);
        DUE.is("the set of 7", x.ofNet(7, 1), 2);
    }

    /** "up to 3 touches, numbered in the order in which they came". */
    private static void touches() {
        Counted x = Scenes.board();
        for (int many = 0; many <= 3; many++) {
            for (int touch : new int[] {-1, many, many + 1, 3, 4, 256, LOW, HIGH}) {
                DUE.is("mend " + touch + " of " + many, x.mend(touch), NO_SUCH);
                DUE.is("ofTouch " + touch + " of " + many, x.ofTouch(touch, 0), NO_SUCH);
            }
            for (int touch = 0; touch < many; touch++) {
                DUE.is("ofTouch " + touch + " of " + many, x.ofTouch(touch, 0), 8 * touch);
            }
            if (many < 3) {
                DUE.is("touch " + many, x.touch(many, 0, 2), many);
            }
        }
        DUE.is("mend the last", x.mend(2), 2);
        DUE.is("mend the first", x.mend(0), 1);
        DUE.is("mend the only one", x.mend(0), 0);
    }

    private static void readings() {
        Counted x = Scenes.board();
        for (int many = 0; many <= 8; many++) {
            for (int reading : new int[] {-1, many, many + 1, 8, 9, 256, LOW, HIGH}) {
                DUE.is("reading " + reading + " of " + many, x.reading(reading, 0), NO_SUCH);
            }
            for (int reading = 0; reading < many; reading++) {
                DUE.is("reading " + reading + " of " + many, x.reading(reading, 0), 9 * reading);
            }
            DUE.is("probe " + many, x.probe(many % 8, many % 8), many < 8 ? 0 : WarmProbes.TOO_MANY);
        }
    }

    /** "steps: 1 to 50". */
    private static void steps() {
        for (int steps = 1; steps <= 50; steps++) {
            DUE.is("warm " + steps, new Counted().warm(steps), steps);
        }
        for (int steps : new int[] {0, -1, -50, 51, 52, 100, 256, 257, LOW, LOW + 1, HIGH, HIGH - 50}) {
            Counted x = new Counted();
            x.warm(50);
            DUE.is("warm " + steps, x.warm(steps), BAD_VALUE);
            DUE.is("steps behind warm " + steps, x.count(0), 50);
        }
    }

    private static void whats() {
        Counted x = Scenes.busy();
        for (int what : new int[] {-1, -2, LOW, HIGH, 256, 257, 15, 16}) {
            DUE.is("at what " + what, x.at(0, 0, what), BAD_VALUE);
            DUE.is("row what " + what, x.row(0, what), BAD_VALUE);
            DUE.is("ofTouch what " + what, x.ofTouch(0, what), BAD_VALUE);
            DUE.is("reading what " + what, x.reading(0, what), BAD_VALUE);
            DUE.is("ofNet what " + what, x.ofNet(1, what), BAD_VALUE);
            DUE.is("count what " + what, x.count(what), BAD_VALUE);
            DUE.is("bestProbe what " + what, x.bestProbe(what), BAD_VALUE);
        }
        DUE.is("at 7", x.at(0, 0, 7), BAD_VALUE);
        DUE.is("at 6", x.at(0, 0, 6), 0);
        DUE.is("at 0", x.at(0, 0, 0), 1);
        DUE.is("row 3", x.row(0, 3), BAD_VALUE);
        DUE.is("row 0", x.row(0, 0), 3);
        DUE.is("row 2", x.row(7, 2), 0);
        DUE.is("ofTouch 4", x.ofTouch(0, 4), BAD_VALUE);
        DUE.is("ofTouch 3", x.ofTouch(0, 3), 1);
        DUE.is("ofTouch 0", x.ofTouch(1, 0), 17);
        DUE.is("reading 3", x.reading(2, 3), BAD_VALUE);
        DUE.is("reading 2", x.reading(2, 2), 7);
        DUE.is("reading 0", x.reading(2, 0), 18);
        DUE.is("ofNet 3", x.ofNet(1, 3), BAD_VALUE);
        DUE.is("ofNet 2", x.ofNet(7, 2), 0);
        DUE.is("ofNet 0", x.ofNet(1, 0), 4);
        DUE.is("count 15", x.count(15), BAD_VALUE);
        DUE.is("count 14", x.count(14), 4);
        DUE.is("count 0", x.count(0), 7);
        DUE.is("bestProbe 2", Scenes.board().bestProbe(2), BAD_VALUE);
        DUE.is("bestProbe 1", Scenes.board().bestProbe(1), 1);
        DUE.is("bestProbe 0", Scenes.board().bestProbe(0), 0);
    }

    /** "read: 1 to 9999". */
    private static void readsIn() {
        Counted x = Scenes.board();
        x.touch(0, 0, 2);
        for (int read : new int[] {0, -1, 10000, 10001, 256 * 256 + 1, LOW, LOW + 1, HIGH}) {
            DUE.is("readsIn " + read, x.readsIn(0, 0, read), BAD_VALUE);
        }
        DUE.is("readsIn 1", x.readsIn(0, 0, 1), 1);
        DUE.is("readsIn 9999", x.readsIn(0, 0, 9999), NONE);
        x.set(WarmProbes.SPREAD, 0);
        x.set(WarmProbes.LOSS, 0);
        x.set(WarmProbes.POWER, 99);
        x.warm(10);
        DUE.is("9900 is not 9999", x.readsIn(0, 0, 9999), 1);
        x.warm(1);
        DUE.is("10890 is 9999 or more", x.readsIn(0, 0, 9999), 0);
        DUE.is("10000, although it is read", x.readsIn(0, 0, 10000), BAD_VALUE);
    }

    /** "slot: 0 or 1". */
    private static void slots() {
        Counted x = Scenes.board();
        for (int slot : new int[] {-1, -2, 2, 3, 256, 257, LOW, LOW + 1, HIGH}) {
            DUE.is("save " + slot, x.save(slot), BAD_VALUE);
            DUE.is("restore " + slot, x.restore(slot), BAD_VALUE);
        }
        DUE.is("restore 0", x.restore(0), NOT_POSSIBLE);
        DUE.is("restore 1", x.restore(1), NOT_POSSIBLE);
        DUE.is("save 0", x.save(0), 0);
        DUE.is("save 1", x.save(1), 0);
        DUE.is("restore 0 then", x.restore(0), 0);
        DUE.is("restore 1 then", x.restore(1), 0);
    }

    /** "1 to 8 characters"; "a code is not 33 to 126", at each place of a put. */
    private static void characters() {
        for (int code = 0; code < 256; code++) {
            Counted x = new Counted();
            DUE.is("put " + code, x.put(code), code >= 33 && code <= 126 ? 1 : BAD_VALUE);
        }
        for (int many = 1; many <= 8; many++) {
            for (int place = 0; place < many; place++) {
                for (int code : new int[] {1, 31, 32, 33, 126, 127, 128, 255}) {
                    char[] text = "a".repeat(many).toCharArray();
                    text[place] = (char) code;
                    Counted x = new Counted();
                    DUE.is("put " + code + " at " + place + " of " + many, x.put(Due.characters(new String(text))),
                        code >= 33 && code <= 126 ? many : BAD_VALUE);
                }
            }
        }
        gaps();
    }

    /** "8 bits that are 0 mean that there are no more characters, and everything above them has to be 0, too." */
    private static void gaps() {
        Counted x = new Counted();
        for (int gap = 0; gap < 8; gap++) {
            for (int above = gap + 1; above < 8; above++) {
                long characters = 0;
                for (int i = 0; i < gap; i++) {
                    characters |= (long) 'a' << 8 * i;
                }
                DUE.is("above a gap " + gap + " " + above, x.put(characters | (long) 'a' << 8 * above), BAD_VALUE);
                DUE.is("lowest bit above " + gap, x.put(characters | 1L << 8 * above), BAD_VALUE);
                DUE.is("highest bit above " + gap, x.put(characters | 128L << 8 * above), BAD_VALUE);
            }
        }
        DUE.is("nothing was put", x.count(13), 0);
        DUE.is("eight, without a gap", x.put(Due.characters("~~~~~~~~")), 8);
    }
}
