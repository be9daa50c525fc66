import java.util.List;

/**
 * "A method that fails returns one of the error codes [..]; it names its errors in the order in which they are checked,
 * and the first one that applies is returned. A call that returns an error changes nothing." Every error of every
 * method, every two errors of a method that can apply at once, and behind each of them all that can be seen: the state,
 * what undo goes back to, both slots and the pad.
 */
public final class RefusedTest {
    private static final Due DUE = new Due();
    private static final int NO_SUCH = -1, BAD_VALUE = -2, BAD_TEXT = -3, TOO_MANY = -4, NOT_POSSIBLE = -5;
    private static final int LOW = Integer.MIN_VALUE;
    private static final int HIGH = Integer.MAX_VALUE;

    private static String name;
    private static Picture.Scene scene;
    private static List<String> pictures;

    public static void main(String[] args) {
        on("empty", Scenes::empty);
        everywhere();
        onTheEmpty();
        on("busy", Scenes::busy);
        everywhere();
        onTheBusy();
        on("full", Scenes::full);
        everywhere();
        onTheFull();
        on("full with a fault", Scenes::fullWithAFault);
        refused("carryOut", BAD_TEXT, x -> x.carryOut());
        refused("put", TOO_MANY, x -> x.put('a'));
        allAtOnce();
        on("busy, looked at", Scenes::busy);
        looks();
        on("full, looked at", Scenes::full);
        looks();
        DUE.end();
    }

    private static void on(String scenesName, Picture.Scene next) {
        name = scenesName;
        scene = next;
        pictures = Picture.deep(scene, null);
    }

    private static void refused(String call, int error, Picture.Call made) {
        DUE.is(name + ": " + call, made.on(scene.make()), error);
        unchanged(call, made);
    }

    private static void unchanged(String call, Picture.Call made) {
        List<String> behind = Picture.deep(scene, made);
        DUE.is(name + ": as many pictures behind " + call, behind.size(), pictures.size());
        for (int i = 0; i < behind.size() && i < pictures.size(); i++) {
            DUE.is(name + ": picture " + i + " is the same behind " + call,
                behind.get(i).equals(pictures.get(i)) ? 1 : 0, 1);
        }
    }

    /** Errors that apply whatever there is; where a second one could apply too, it stands in the name. */
    private static void everywhere() {
        refused("set no setting below", BAD_VALUE, x -> x.set(-1, 5));
        refused("set no setting above", BAD_VALUE, x -> x.set(4, 5));
        refused("set value below", BAD_VALUE, x -> x.set(WarmProbes.POWER, 0));
        refused("set value above", BAD_VALUE, x -> x.set(WarmProbes.SPREAD, 25));
        refused("set neither", BAD_VALUE, x -> x.set(LOW, HIGH));
        refused("track row", NO_SUCH, x -> x.track(8, 0, 3));
        refused("track column", NO_SUCH, x -> x.track(0, -1, 3));
        refused("track row and net", NO_SUCH, x -> x.track(-1, 0, 8));
        refused("track column and net", NO_SUCH, x -> x.track(0, 8, -1));
        refused("track net below", BAD_VALUE, x -> x.track(7, 7, -1));
        refused("track net above", BAD_VALUE, x -> x.track(7, 7, 8));
        refused("touch row", NO_SUCH, x -> x.touch(8, 0, 2));
        refused("touch column", NO_SUCH, x -> x.touch(0, 8, 2));
        refused("touch row and net", NO_SUCH, x -> x.touch(-1, 0, 0));
        refused("touch column and net", NO_SUCH, x -> x.touch(0, -1, 8));
        refused("touch net below", BAD_VALUE, x -> x.touch(0, 1, 0));
        refused("touch net above", BAD_VALUE, x -> x.touch(0, 1, 8));
        refused("touch net, no track", BAD_VALUE, x -> x.touch(7, 7, 8));
        refused("touch no track", NOT_POSSIBLE, x -> x.touch(7, 7, 1));
        refused("touch no neighbour with the net", NOT_POSSIBLE, x -> x.touch(0, 1, 3));
        refused("mend below", NO_SUCH, x -> x.mend(-1));
        refused("mend above", NO_SUCH, x -> x.mend(3));
        refused("feed net below", NO_SUCH, x -> x.feed(0, 1));
        refused("feed net above", NO_SUCH, x -> x.feed(8, 1));
        refused("feed other below", NO_SUCH, x -> x.feed(1, 0));
        refused("feed other above", NO_SUCH, x -> x.feed(1, 8));
        refused("feed no net twice below", NO_SUCH, x -> x.feed(0, 0));
        refused("feed no net twice above", NO_SUCH, x -> x.feed(8, 8));
        refused("feed the same, the first", BAD_VALUE, x -> x.feed(1, 1));
        refused("feed the same, the last", BAD_VALUE, x -> x.feed(7, 7));
        refused("warm none", BAD_VALUE, x -> x.warm(0));
        refused("warm 51", BAD_VALUE, x -> x.warm(51));
        refused("warm least", BAD_VALUE, x -> x.warm(LOW));
        refused("warm most", BAD_VALUE, x -> x.warm(HIGH));
        refused("probe row", NO_SUCH, x -> x.probe(8, 0));
        refused("probe column", NO_SUCH, x -> x.probe(0, -1));
        refused("put nothing", BAD_VALUE, x -> x.put(0L));
        refused("put 32", BAD_VALUE, x -> x.put(32L));
        refused("put 127", BAD_VALUE, x -> x.put(127L));
        refused("put a bit above", BAD_VALUE, x -> x.put(1L << 63 | 'a'));
        refused("put 32 among eight", BAD_VALUE, x -> x.put(Due.characters("abcd fgh")));
        refused("save below", BAD_VALUE, x -> x.save(-1));
        refused("save above", BAD_VALUE, x -> x.save(2));
        refused("restore below", BAD_VALUE, x -> x.restore(-1));
        refused("restore above", BAD_VALUE, x -> x.restore(2));
        looksRefused();
    }

    private static void looksRefused() {
        refused("at row", NO_SUCH, x -> x.at(-1, 0, 0));
        refused("at column", NO_SUCH, x -> x.at(0, 8, 0));
        refused("at place and what", NO_SUCH, x -> x.at(8, -1, 7));
        refused("at what below", BAD_VALUE, x -> x.at(0, 0, -1));
        refused("at what above", BAD_VALUE, x -> x.at(0, 0, 7));
        refused("row", NO_SUCH, x -> x.row(8, 0));
        refused("row and what", NO_SUCH, x -> x.row(-1, 3));
        refused("row what below", BAD_VALUE, x -> x.row(0, -1));
        refused("row what above", BAD_VALUE, x -> x.row(0, 3));
        refused("ofTouch", NO_SUCH, x -> x.ofTouch(3, 0));
        refused("ofTouch and what", NO_SUCH, x -> x.ofTouch(-1, 4));
        refused("reading", NO_SUCH, x -> x.reading(8, 0));
        refused("reading and what", NO_SUCH, x -> x.reading(-1, 3));
        refused("ofNet", NO_SUCH, x -> x.ofNet(0, 0));
        refused("ofNet and what", NO_SUCH, x -> x.ofNet(8, 3));
        refused("ofNet what below", BAD_VALUE, x -> x.ofNet(1, -1));
        refused("ofNet what above", BAD_VALUE, x -> x.ofNet(1, 3));
        refused("count below", BAD_VALUE, x -> x.count(-1));
        refused("count above", BAD_VALUE, x -> x.count(15));
        refused("bestProbe below", BAD_VALUE, x -> x.bestProbe(-1));
        refused("bestProbe above", BAD_VALUE, x -> x.bestProbe(2));
        refused("readsIn row", NO_SUCH, x -> x.readsIn(8, 0, 1));
        refused("readsIn column", NO_SUCH, x -> x.readsIn(0, -1, 1));
        refused("readsIn place and read", NO_SUCH, x -> x.readsIn(-1, 8, 0));
        refused("readsIn read below", BAD_VALUE, x -> x.readsIn(0, 0, 0));
        refused("readsIn read above", BAD_VALUE, x -> x.readsIn(0, 0, 10000));
        refused("wouldRead row", NO_SUCH, x -> x.wouldRead(8, 0, 0, 0));
        refused("wouldRead column", NO_SUCH, x -> x.wouldRead(0, -1, 0, 0));
        refused("wouldRead suspect row", NO_SUCH, x -> x.wouldRead(0, 0, -1, 0));
        refused("wouldRead suspect column", NO_SUCH, x -> x.wouldRead(0, 0, 0, 8));
        refused("wouldRead not suspect", NO_SUCH, x -> x.wouldRead(0, 0, 7, 7));
        refused("wouldRead neither", NO_SUCH, x -> x.wouldRead(8, 8, 7, 7));
    }

    private static void onTheEmpty() {
        refused("mend", NO_SUCH, x -> x.mend(0));
        refused("ofTouch", NO_SUCH, x -> x.ofTouch(0, 0));
        refused("reading", NO_SUCH, x -> x.reading(0, 0));
        refused("carryOut of no text", BAD_TEXT, x -> x.carryOut());
        refused("undo", NOT_POSSIBLE, x -> x.undo());
        refused("restore 0", NOT_POSSIBLE, x -> x.restore(0));
        refused("restore 1", NOT_POSSIBLE, x -> x.restore(1));
        refused("wouldRead", NO_SUCH, x -> x.wouldRead(0, 0, 0, 0));
    }

    /** Touches are at (0, 0) with net 2 and at (2, 1) with net 1; seven steps have passed. */
    private static void onTheBusy() {
        refused("track at a touch", NOT_POSSIBLE, x -> x.track(0, 0, 3));
        refused("track at a touch, the same", NOT_POSSIBLE, x -> x.track(0, 0, 1));
        refused("track at a touch, none", NOT_POSSIBLE, x -> x.track(2, 1, 0));
        refused("track beside a touch", NOT_POSSIBLE, x -> x.track(0, 1, 0));
        refused("track beside a touch, the same", NOT_POSSIBLE, x -> x.track(0, 1, 2));
        refused("track at a touch, and net", BAD_VALUE, x -> x.track(0, 0, 8));
        refused("track beside a touch, and net", BAD_VALUE, x -> x.track(0, 1, -1));
        refused("touch at a touch", NOT_POSSIBLE, x -> x.touch(0, 0, 2));
        refused("touch with its own net", NOT_POSSIBLE, x -> x.touch(1, 1, 2));
        refused("touch at a touch, and net", BAD_VALUE, x -> x.touch(0, 0, 0));
        refused("mend", NO_SUCH, x -> x.mend(2));
        refused("ofTouch", NO_SUCH, x -> x.ofTouch(2, 0));
        refused("ofTouch what below", BAD_VALUE, x -> x.ofTouch(1, -1));
        refused("ofTouch what above", BAD_VALUE, x -> x.ofTouch(1, 4));
        refused("reading", NO_SUCH, x -> x.reading(3, 0));
        refused("reading what below", BAD_VALUE, x -> x.reading(2, -1));
        refused("reading what above", BAD_VALUE, x -> x.reading(2, 3));
    }

    private static void onTheFull() {
        refused("touch too many", TOO_MANY, x -> x.touch(1, 0, 2));
        refused("touch too many, at a touch", NOT_POSSIBLE, x -> x.touch(0, 0, 2));
        refused("touch too many, with its own net", NOT_POSSIBLE, x -> x.touch(1, 0, 1));
        refused("touch too many, no neighbour", NOT_POSSIBLE, x -> x.touch(1, 0, 7));
        refused("warm one more", NOT_POSSIBLE, x -> x.warm(1));
        refused("warm fifty more", NOT_POSSIBLE, x -> x.warm(50));
        refused("probe too many", TOO_MANY, x -> x.probe(7, 7));
        refused("put too many", TOO_MANY, x -> x.put('a'));
        refused("put eight too many", TOO_MANY, x -> x.put(Due.characters("abcdefgh")));
    }

    /** Errors that leave traces one after the other only would be missed one by one. */
    private static void allAtOnce() {
        on("all at once, full with a fault", Scenes::fullWithAFault);
        refused("many errors", BAD_TEXT, x -> {
            x.set(3, 100);
            x.track(0, 0, 0);
            x.touch(1, 0, 2);
            x.mend(3);
            x.feed(5, 5);
            x.warm(1);
            x.probe(0, 0);
            x.put('a');
            x.restore(2);
            x.save(2);
            x.readsIn(0, 0, 10000);
            return x.carryOut();
        });
    }

    /** What there is, and "what if; nothing changes": a look that is not refused leaves no traces either. */
    private static void looks() {
        for (int what = 0; what <= 14; what++) {
            int one = what;
            unchanged("count " + what, x -> x.count(one));
        }
        for (int what = 0; what <= 6; what++) {
            int one = what;
            unchanged("at " + what, x -> x.at(0, 0, one));
        }
        for (int what = 0; what <= 2; what++) {
            int one = what;
            unchanged("row " + what, x -> x.row(0, one));
            unchanged("ofTouch " + what, x -> x.ofTouch(0, one));
            unchanged("reading " + what, x -> x.reading(0, one));
            unchanged("ofNet " + what, x -> x.ofNet(1, one));
        }
        unchanged("ofTouch 3", x -> x.ofTouch(0, 3));
        unchanged("mean", x -> x.mean());
        unchanged("bestProbe 0", x -> x.bestProbe(0));
        unchanged("bestProbe 1", x -> x.bestProbe(1));
        unchanged("readsIn now", x -> x.readsIn(0, 0, 1));
        unchanged("readsIn later", x -> x.readsIn(7, 7, 9));
        unchanged("readsIn never", x -> x.readsIn(0, 0, 9999));
        unchanged("wouldRead", x -> x.wouldRead(5, 5, 0, 0));
        unchanged("fault", x -> x.fault());
    }
}
