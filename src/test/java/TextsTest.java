/** Promises 20 to 23: the pad. */
public final class TextsTest {
    private static final Due DUE = new Due();

    public static void main(String[] args) {
        put();
        putTooMany();
        wipe();
        faults();
        noFaults();
        carryOut();
        carryOutUpToAnError();
        carryOutIsOneChange();
        DUE.end();
    }

    private static void put() {
        Counted x = new Counted();
        DUE.is("none", x.put(0L), WarmProbes.BAD_VALUE);
        DUE.is("32", x.put(32L), WarmProbes.BAD_VALUE);
        DUE.is("127", x.put(127L), WarmProbes.BAD_VALUE);
        DUE.is("255", x.put(255L), WarmProbes.BAD_VALUE);
        DUE.is("-1", x.put(-1L), WarmProbes.BAD_VALUE);
        DUE.is("least", x.put(Long.MIN_VALUE), WarmProbes.BAD_VALUE);
        DUE.is("a gap", x.put((long) 'a' << 16 | 'b'), WarmProbes.BAD_VALUE);
        DUE.is("a gap at the end", x.put((long) 'a' << 8), WarmProbes.BAD_VALUE);
        DUE.is("a high bit", x.put(1L << 63 | 'a'), WarmProbes.BAD_VALUE);
        DUE.is("a bad first character", x.put(Due.characters("\u007fabcdefg")), WarmProbes.BAD_VALUE);
        DUE.is("a bad last character", x.put(Due.characters("abcdefg ")), WarmProbes.BAD_VALUE);
        DUE.is("nothing was put", x.count(13), 0);
        DUE.is("33", x.put(33L), 1);
        DUE.is("126", x.put(126L), 2);
        DUE.is("eight", x.put(Due.characters("~~~~~~~~")), 10);
        DUE.is("put is no change", x.count(14), 0);
        x.wipe();
        DUE.is("in their order", x.put(Due.characters("w1")), 2);
        DUE.is("behind the others", x.put(Due.characters("2;pa0")), 7);
        DUE.is("carried out", x.carryOut(), 2);
        DUE.is("steps", x.count(0), 12);
    }

    private static void putTooMany() {
        Counted x = new Counted();
        for (int i = 1; i <= 9; i++) {
            DUE.is("eight more", x.put(Due.characters("abcdefgh")), 8 * i);
        }
        DUE.is("one more", x.put('a'), 73);
        DUE.is("too many", x.put(Due.characters("abcdefgh")), WarmProbes.TOO_MANY);
        DUE.is("bad ahead of too many", x.put(Due.characters("abcdefg ")), WarmProbes.BAD_VALUE);
        DUE.is("80", x.put(Due.characters("abcdefg")), 80);
        DUE.is("81", x.put('a'), WarmProbes.TOO_MANY);
        DUE.is("bad and full", x.put(0L), WarmProbes.BAD_VALUE);
        DUE.is("80 still", x.count(13), 80);
    }

    private static void wipe() {
        Counted x = new Counted();
        DUE.is("empty", x.wipe(), 0);
        Due.put(x, "w1;w2");
        DUE.is("wiped", x.wipe(), 5);
        DUE.is("is empty", x.count(13), 0);
        DUE.is("wiped again", x.wipe(), 0);
        DUE.is("wipe is no change", x.count(14), 0);
        DUE.is("fault of the empty pad", x.fault(), 0);
    }

    private static void fault(String text, int fault) {
        Counted x = new Counted();
        Due.put(x, text);
        DUE.is("fault of " + text, x.fault(), fault);
        DUE.is("the pad stays at " + text, x.count(13), text.length());
        if (fault != WarmProbes.NONE) {
            DUE.is("carry out " + text, x.carryOut(), WarmProbes.BAD_TEXT);
            DUE.is("and it stays at " + text, x.count(13), text.length());
            DUE.is("no change by " + text, x.count(14), 0);
        }
    }

    private static void faults() {
        String[] early = {"", "t", "t1", "t1a", "t1a0b", "f", "f1", "s", "sa", "sa1", "sa1=", "m", "w", "p", "ph",
            "w1;", "t1a0;", "w1;f1"};
        for (String text : early) {
            fault(text, text.length());
        }
        String[] at = {"!", "T1a0", ";w1", "1", "x", "tx", "t1x", "t1i0", "t1A0", "t1aa", "t1a0b;", "t1a0i1", "t1a01",
            "f;", "f1;", "f123", "s1", "sa=1", "sa1;", "sa1==", "sa1=12", "ma", "m12", "w-1", "w;", "w100", "w00",
            "w05", "w1a", "pa12", "p0a", "pi0", "w1;;", "w1,w2", "w99;pz", "t1a0t1a0", "t1a:", "t1a/", "f:1", "t1`1"};
        int[] where = {0, 0, 0, 0, 0, 1, 2, 2, 2, 3, 5, 4, 4,
            1, 2, 3, 1, 2, 3, 4, 5, 1, 2, 1, 1, 3, 2,
            2, 2, 3, 1, 1, 3, 2, 5, 4, 3, 3, 1, 2};
        DUE.is("as many places as texts", where.length, at.length);
        for (int i = 0; i < at.length; i++) {
            fault(at[i], where[i]);
        }
    }

    private static void noFaults() {
        String[] texts = {"t0a0", "t9h9", "t1a0a1b2", "f00", "f99", "sa0=0", "sh9=9", "m0", "m9", "w0", "w9", "w10",
            "w99", "pa0", "ph9", "w1;w2;w3", "t1a0;f12;sa0=2;m0;w1;pa0"};
        for (String text : texts) {
            fault(text, WarmProbes.NONE);
        }
        StringBuilder full = new StringBuilder("t1");
        for (int i = 0; i < 39; i++) {
            full.append("a0");
        }
        fault(full.toString(), WarmProbes.NONE);
        fault(full.substring(0, 79), 79);
        fault(full.substring(0, 79) + ";", 79);
        Counted x = new Counted();
        Due.put(x, full.toString());
        DUE.is("a full pad", x.carryOut(), 39);
    }

    private static void carryOut() {
        Counted x = new Counted();
        Due.put(x, "t1a0h7;t2b0;f12;sa0=2;w2;pb0;m0;w13;ph7");
        DUE.is("carry out", x.carryOut(), 10);
        DUE.is("the pad is empty", x.count(13), 0);
        DUE.is("the last row", x.at(7, 7, 0), 1);
        DUE.is("steps", x.count(0), 13);
        DUE.is("touches", x.count(1), 0);
        DUE.is("readings", x.count(3), 1);
        DUE.is("place of the reading", x.reading(0, 0), 63);
        x.put(Due.characters("sb0=1"));
        DUE.is("touch", x.carryOut(), 1);
        DUE.is("place", x.ofTouch(0, 0), 1);
        DUE.is("other", x.ofTouch(0, 2), 1);
        x.put(Due.characters("pc4"));
        DUE.is("probe", x.carryOut(), 1);
        DUE.is("row and column", x.reading(0, 0), 8 * 4 + 2);
        x.put(Due.characters("f37"));
        DUE.is("feed", x.carryOut(), 1);
        DUE.is("pair", x.ofNet(3, 1), 1 << 7);
        x.put(Due.characters("t0h7"));
        DUE.is("no track", x.carryOut(), 1);
        DUE.is("none", x.at(7, 7, 0), 0);
    }

    private static void carryOutUpToAnError() {
        String[] texts = {"t8a0", "t1a8", "t1a0a9;w1", "f11", "f01", "f18", "sa0=1", "sa8=1", "sa0=8", "m0", "w0",
            "w51", "pa8", "w50;w50;w1", "w1;w0;w1", "t1a0b0a9c0"};
        int[] done = {0, 0, 1, 0, 0, 0, 0, 0, 0, 0, 0, 0, 0, 2, 1, 2};
        for (int i = 0; i < texts.length; i++) {
            Counted x = new Counted();
            Due.put(x, texts[i]);
            DUE.is("orders of " + texts[i], x.carryOut(), done[i]);
            DUE.is("the pad is empty behind " + texts[i], x.count(13), 0);
            DUE.is("a change by " + texts[i], x.count(14), 1);
        }
        Counted x = new Counted();
        Due.put(x, "t1a0b0a9c0;w7");
        x.carryOut();
        DUE.is("ahead of the error", x.row(0, 0), 3);
        DUE.is("behind the error", x.count(0), 0);
        Due.put(x, "pa0;pa0;pa0;pa0;pa0;pa0;pa0;pa0;pa0;w1");
        DUE.is("too many probes", x.carryOut(), 8);
    }

    private static void carryOutIsOneChange() {
        Counted x = new Counted();
        x.warm(3);
        Due.put(x, "t1a0b0c0;w5;pa0");
        DUE.is("carry out", x.carryOut(), 5);
        DUE.is("one change", x.count(14), 2);
        DUE.is("undo", x.undo(), 1);
        DUE.is("steps", x.count(0), 3);
        DUE.is("tracks", x.count(4), 0);
        DUE.is("readings", x.count(3), 0);
        DUE.is("the pad stays empty", x.count(13), 0);
        Due.put(x, "w0");
        DUE.is("nothing carried out", x.carryOut(), 0);
        DUE.is("is a change too", x.count(14), 2);
    }
}
