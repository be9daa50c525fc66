import java.util.ArrayList;
import java.util.List;

/**
 * What can be seen of an object, as a text. A picture takes some 220 of the 512 calls that an object has, so that what
 * is looked at again, or further behind, is looked at on another object with the same calls.
 */
final class Picture {
    /** Makes an object by always the same calls, so that each of them can be looked at once. */
    interface Scene {
        Counted make();
    }

    interface Call {
        long on(Counted x);
    }

    private Picture() {
    }

    /** All that undo and the slots bring back. */
    static String stateOf(Counted x) {
        StringBuilder state = new StringBuilder();
        for (int row = 0; row < 8; row++) {
            for (int what = 0; what <= 2; what++) {
                state.append(x.row(row, what)).append(' ');
            }
            for (int column = 0; column < 8; column++) {
                state.append(x.at(row, column, 0)).append(' ').append(x.at(row, column, 1)).append(' ');
            }
        }
        for (int net = 1; net <= 7; net++) {
            state.append(x.ofNet(net, 1)).append(' ');
        }
        for (int what = 0; what <= 12; what++) {
            state.append(x.count(what)).append(' ');
        }
        for (int i = 0; i < 3; i++) {
            for (int what = 0; what <= 3; what++) {
                state.append(x.ofTouch(i, what)).append(' ');
            }
        }
        for (int i = 0; i < 8; i++) {
            for (int what = 0; what <= 2; what++) {
                state.append(x.reading(i, what)).append(' ');
            }
        }
        return state.toString();
    }

    /** The state, and what can be seen of the pad and of the history. */
    static String of(Counted x) {
        return stateOf(x) + x.count(13) + ' ' + x.fault() + ' ' + x.count(14);
    }

    /**
     * The pictures of a scene, of each of the states that undo goes back to from there, of both slots, and of what the
     * pad carries out; with a call behind the scene, or null for none.
     */
    static List<String> deep(Scene scene, Call call) {
        List<String> pictures = new ArrayList<>();
        int changes = behind(scene, call).count(14);
        for (int back = 0; back <= changes + 1; back++) {
            Counted x = behind(scene, call);
            StringBuilder answers = new StringBuilder("undo ");
            for (int i = 0; i < back; i++) {
                answers.append(x.undo()).append(' ');
            }
            pictures.add(answers + of(x));
        }
        for (int slot = 0; slot <= 1; slot++) {
            Counted x = behind(scene, call);
            pictures.add("restore " + x.restore(slot) + ' ' + of(x));
        }
        Counted x = behind(scene, call);
        pictures.add("carryOut " + x.carryOut() + ' ' + of(x));
        return pictures;
    }

    private static Counted behind(Scene scene, Call call) {
        Counted x = scene.make();
        if (call != null) {
            call.on(x);
        }
        return x;
    }
}
