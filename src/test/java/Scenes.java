/** Objects for the tests of edges: empty, in the midst of a run, and full of all that there can be. */
final class Scenes {
    private static final String BOARD = "t1a0a1a2a3;t2b0b1b2b3;f12";

    private Scenes() {
    }

    static Counted empty() {
        return new Counted();
    }

    /** Nets 1 and 2, a fed pair, in columns a and b of rows 0 to 3; one change. */
    static Counted board() {
        Counted x = new Counted();
        Due.carryOut(x, BOARD, 9);
        return x;
    }

    /** Every second place has net 1, the others net 2, and both are a fed pair: all places are suspect. */
    static Counted checkered() {
        Counted x = new Counted();
        Due.carryOut(x, "t1a0c0e0g0b1d1f1h1a2c2e2g2b3d3f3h3a4c4e4g4b5d5f5h5a6c6e6g6b7d7f7h7", 32);
        Due.carryOut(x, "t2b0d0f0h0a1c1e1g1b2d2f2h2a3c3e3g3b4d4f4h4a5c5e5g5b6d6f6h6a7c7e7g7", 32);
        x.feed(1, 2);
        return x;
    }

    /** Two touches, seven steps, three readings, four changes, other states in both slots, and a pad. */
    static Counted busy() {
        Counted x = board();
        x.touch(0, 0, 2);
        x.save(0);
        Due.carryOut(x, "sb2=1;w5;pa1;pb3", 4);
        x.save(1);
        Due.carryOut(x, "w2;pc2", 2);
        Due.put(x, "t3c4;w7");
        return x;
    }

    /** Three touches, 100 steps, 8 readings, 6 changes, both slots, and 80 characters on the pad. */
    static Counted full() {
        Counted x = board();
        Due.carryOut(x, "sa0=2;sb2=1;sb3=1", 3);
        x.save(0);
        Due.carryOut(x, "w50;pa0;pb1;pc2;pd3", 5);
        x.save(1);
        x.warm(50);
        Due.carryOut(x, "pe4;pa3;ph7", 3);
        x.set(WarmProbes.DOUBT, 5);
        x.probe(1, 1);
        Due.put(x, "t3" + "c4".repeat(39));
        return x;
    }

    /** As full, with the pad in the midst of an order. */
    static Counted fullWithAFault() {
        Counted x = full();
        Due.put(x, "t3" + "c4".repeat(38) + "c;");
        return x;
    }
}
