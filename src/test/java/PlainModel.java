import java.util.ArrayList;
import java.util.List;
import java.util.TreeSet;
import java.util.regex.Matcher;
import java.util.regex.Pattern;

/**
 * The document once more, as slow and as plain as it can be told: every warmth is made anew from a cold board, and
 * every state of the past is a whole copy.
 */
final class PlainModel {
    private static final int NO_SUCH = -1, BAD_VALUE = -2, BAD_TEXT = -3, TOO_MANY = -4, NOT_POSSIBLE = -5, NONE = -6;
    private static final Pattern TEXT = Pattern.compile("O(;O)*".replace("O",
        "(t[0-9]([a-h][0-9])+|f[0-9][0-9]|s[a-h][0-9]=[0-9]|m[0-9]|w(0|[1-9]|[1-9][0-9])|p[a-h][0-9])"));

    private record Touch(int row, int column, int other) { }

    private record Reading(int row, int column, int read, int steps) { }

    private static final class State {
        int spread = 15;
        int loss = 5;
        int power = 20;
        int doubt = 3;
        int[][] nets = new int[8][8];
        boolean[][] fed = new boolean[10][10];
        List<Touch> touches = new ArrayList<>();
        int steps = 0;
        List<Reading> readings = new ArrayList<>();

        State copy() {
            State copy = new State();
            copy.spread = spread;
            copy.loss = loss;
            copy.power = power;
            copy.doubt = doubt;
            for (int i = 0; i < 8; i++) {
                copy.nets[i] = nets[i].clone();
            }
            for (int i = 0; i < 10; i++) {
                copy.fed[i] = fed[i].clone();
            }
            copy.touches.addAll(touches);
            copy.steps = steps;
            copy.readings.addAll(readings);
            return copy;
        }
    }

    private State now = new State();
    private final List<State> past = new ArrayList<>();
    private final State[] slots = new State[2];
    private String pad = "";

    // ---- changes

    int set(int setting, int value) {
        return change(() -> plainSet(setting, value));
    }

    int track(int row, int column, int net) {
        return change(() -> plainTrack(row, column, net));
    }

    int touch(int row, int column, int net) {
        return change(() -> plainTouch(row, column, net));
    }

    int mend(int touch) {
        return change(() -> plainMend(touch));
    }

    int feed(int net, int other) {
        return change(() -> plainFeed(net, other));
    }

    int cool() {
        return change(() -> {
            int before = now.steps;
            newRun();
            return before;
        });
    }

    int warm(int steps) {
        return change(() -> plainWarm(steps));
    }

    int probe(int row, int column) {
        return change(() -> plainProbe(row, column));
    }

    private interface Change {
        int answer();
    }

    private int change(Change change) {
        State before = now.copy();
        int answer = change.answer();
        if (answer >= 0) {
            past.add(before);
            if (past.size() > 6) {
                past.remove(0);
            }
        }
        return answer;
    }

    private void newRun() {
        now.steps = 0;
        now.readings.clear();
    }

    private int plainSet(int setting, int value) {
        int before;
        if (setting == 0 && value >= 0 && value <= 24) {
            before = now.spread;
            now.spread = value;
        } else if (setting == 1 && value >= 0 && value <= 50) {
            before = now.loss;
            now.loss = value;
        } else if (setting == 2 && value >= 1 && value <= 99) {
            before = now.power;
            now.power = value;
        } else if (setting == 3 && value >= 0 && value <= 99) {
            before = now.doubt;
            now.doubt = value;
            return before;
        } else {
            return BAD_VALUE;
        }
        newRun();
        return before;
    }

    private int plainTrack(int row, int column, int net) {
        if (isOff(row, column)) {
            return NO_SUCH;
        }
        if (net < 0 || net > 7) {
            return BAD_VALUE;
        }
        for (Touch touch : now.touches) {
            int away = Math.abs(touch.row - row) + Math.abs(touch.column - column);
            if (away == 0 || away == 1 && touch.other == now.nets[row][column]) {
                return NOT_POSSIBLE;
            }
        }
        int before = now.nets[row][column];
        now.nets[row][column] = net;
        newRun();
        return before;
    }

    private int plainTouch(int row, int column, int net) {
        if (isOff(row, column)) {
            return NO_SUCH;
        }
        if (net < 1 || net > 7) {
            return BAD_VALUE;
        }
        if (now.nets[row][column] == 0 || now.nets[row][column] == net || numberOfTouch(row, column) >= 0
                || !neighbourNets(row, column).contains(net)) {
            return NOT_POSSIBLE;
        }
        if (now.touches.size() == 3) {
            return TOO_MANY;
        }
        now.touches.add(new Touch(row, column, net));
        newRun();
        return now.touches.size() - 1;
    }

    private int plainMend(int touch) {
        if (touch < 0 || touch >= now.touches.size()) {
            return NO_SUCH;
        }
        now.touches.remove(touch);
        newRun();
        return now.touches.size();
    }

    private int plainFeed(int net, int other) {
        if (net < 1 || net > 7 || other < 1 || other > 7) {
            return NO_SUCH;
        }
        if (net == other) {
            return BAD_VALUE;
        }
        now.fed[net][other] = !now.fed[net][other];
        now.fed[other][net] = now.fed[net][other];
        newRun();
        return now.fed[net][other] ? 1 : 0;
    }

    private int plainWarm(int steps) {
        if (steps < 1 || steps > 50) {
            return BAD_VALUE;
        }
        if (now.steps + steps > 100) {
            return NOT_POSSIBLE;
        }
        now.steps += steps;
        return now.steps;
    }

    private int plainProbe(int row, int column) {
        if (isOff(row, column)) {
            return NO_SUCH;
        }
        if (now.readings.size() == 8) {
            return TOO_MANY;
        }
        int read = readOf(warmth()[row][column]);
        now.readings.add(new Reading(row, column, read, now.steps));
        return read;
    }

    // ---- warmth

    private static int readOf(float warmth) {
        return (int) (warmth * 10.0f);
    }

    private boolean[][] live() {
        boolean[][] live = new boolean[8][8];
        for (Touch touch : now.touches) {
            live[touch.row][touch.column] = now.fed[now.nets[touch.row][touch.column]][touch.other];
        }
        return live;
    }

    private float[][] warmth() {
        return run(live(), now.steps);
    }

    private float[][] alone(int place, int steps) {
        boolean[][] live = new boolean[8][8];
        live[place / 8][place % 8] = true;
        return run(live, steps);
    }

    private float[][] run(boolean[][] live, int steps) {
        float[][] warmth = new float[8][8];
        for (int i = 0; i < steps; i++) {
            warmth = step(warmth, live);
        }
        return warmth;
    }

    private float[][] step(float[][] warmth, boolean[][] live) {
        int[][] ways = {{-1, 0}, {1, 0}, {0, -1}, {0, 1}};
        float[][] then = new float[8][8];
        for (int row = 0; row < 8; row++) {
            for (int column = 0; column < 8; column++) {
                float w = warmth[row][column];
                float t = 0.0f;
                for (int[] way : ways) {
                    if (!isOff(row + way[0], column + way[1])) {
                        float n = warmth[row + way[0]][column + way[1]];
                        t = t + (n - w) * (float) now.spread / 100.0f;
                    }
                }
                then[row][column] = (w + t) * (float) (100 - now.loss) / 100.0f;
                if (live[row][column]) {
                    then[row][column] += (float) now.power;
                }
            }
        }
        return then;
    }

    // ---- places

    private static boolean isOff(int row, int column) {
        return row < 0 || row > 7 || column < 0 || column > 7;
    }

    private List<Integer> neighbourNets(int row, int column) {
        List<Integer> nets = new ArrayList<>();
        for (int r = 0; r < 8; r++) {
            for (int c = 0; c < 8; c++) {
                if (Math.abs(r - row) + Math.abs(c - column) == 1 && now.nets[r][c] != 0) {
                    nets.add(now.nets[r][c]);
                }
            }
        }
        return nets;
    }

    private boolean isSuspect(int row, int column) {
        int net = now.nets[row][column];
        if (net == 0) {
            return false;
        }
        for (int other : neighbourNets(row, column)) {
            if (now.fed[net][other]) {
                return true;
            }
        }
        return false;
    }

    private int numberOfTouch(int row, int column) {
        for (int i = 0; i < now.touches.size(); i++) {
            if (now.touches.get(i).row == row && now.touches.get(i).column == column) {
                return i;
            }
        }
        return NONE;
    }

    private List<Integer> suspects() {
        List<Integer> suspects = new ArrayList<>();
        for (int place = 0; place < 64; place++) {
            if (isSuspect(place / 8, place % 8)) {
                suspects.add(place);
            }
        }
        return suspects;
    }

    /** What each place makes at each reading; a row is null if the place is not suspect. */
    private float[][] madeAtReadings() {
        float[][] made = new float[64][];
        for (int place : suspects()) {
            made[place] = new float[now.readings.size()];
            for (int i = 0; i < made[place].length; i++) {
                Reading reading = now.readings.get(i);
                made[place][i] = alone(place, reading.steps)[reading.row][reading.column];
            }
        }
        return made;
    }

    private boolean isNear(float warmth, int reading) {
        return Math.abs(readOf(warmth) - now.readings.get(reading).read) <= now.doubt;
    }

    private List<Integer> candidates() {
        float[][] made = madeAtReadings();
        List<Integer> candidates = new ArrayList<>();
        for (int place : suspects()) {
            boolean fits = true;
            for (int i = 0; i < now.readings.size(); i++) {
                fits &= isNear(made[place][i], i);
            }
            if (fits) {
                candidates.add(place);
            }
        }
        return candidates;
    }

    private List<int[]> pairs() {
        float[][] made = madeAtReadings();
        List<int[]> pairs = new ArrayList<>();
        for (int low : suspects()) {
            for (int high : suspects()) {
                boolean fits = low < high;
                for (int i = 0; fits && i < now.readings.size(); i++) {
                    fits = isNear(made[low][i] + made[high][i], i);
                }
                if (fits) {
                    pairs.add(new int[] {low, high});
                }
            }
        }
        return pairs;
    }

    // ---- what there is

    int at(int row, int column, int what) {
        if (isOff(row, column)) {
            return NO_SUCH;
        }
        int place = 8 * row + column;
        switch (what) {
            case 0: return now.nets[row][column];
            case 1: return Float.floatToIntBits(warmth()[row][column]);
            case 2: return readOf(warmth()[row][column]);
            case 3: return isSuspect(row, column) ? 1 : 0;
            case 4: return candidates().contains(place) ? 1 : 0;
            case 5: return pairs().stream().anyMatch(pair -> pair[0] == place || pair[1] == place) ? 1 : 0;
            case 6: return numberOfTouch(row, column);
            default: return BAD_VALUE;
        }
    }

    int row(int row, int what) {
        if (row < 0 || row > 7) {
            return NO_SUCH;
        }
        if (what < 0 || what > 2) {
            return BAD_VALUE;
        }
        int set = 0;
        for (int column = 0; column < 8; column++) {
            int place = 8 * row + column;
            boolean is = what == 0 ? now.nets[row][column] > 0
                : what == 1 ? isSuspect(row, column) : candidates().contains(place);
            set += is ? 1 << column : 0;
        }
        return set;
    }

    int ofTouch(int touch, int what) {
        if (touch < 0 || touch >= now.touches.size()) {
            return NO_SUCH;
        }
        Touch it = now.touches.get(touch);
        switch (what) {
            case 0: return 8 * it.row + it.column;
            case 1: return now.nets[it.row][it.column];
            case 2: return it.other;
            case 3: return live()[it.row][it.column] ? 1 : 0;
            default: return BAD_VALUE;
        }
    }

    int reading(int reading, int what) {
        if (reading < 0 || reading >= now.readings.size()) {
            return NO_SUCH;
        }
        Reading it = now.readings.get(reading);
        switch (what) {
            case 0: return 8 * it.row + it.column;
            case 1: return it.read;
            case 2: return it.steps;
            default: return BAD_VALUE;
        }
    }

    int ofNet(int net, int what) {
        if (net < 1 || net > 7) {
            return NO_SUCH;
        }
        if (what < 0 || what > 2) {
            return BAD_VALUE;
        }
        int places = 0;
        float sum = 0.0f;
        float[][] warmth = warmth();
        for (int place = 0; place < 64; place++) {
            if (now.nets[place / 8][place % 8] == net) {
                places++;
                sum += warmth[place / 8][place % 8];
            }
        }
        int partners = 0;
        for (int other = 1; other <= 7; other++) {
            partners += now.fed[net][other] ? 1 << other : 0;
        }
        return what == 0 ? places : what == 1 ? partners : Float.floatToIntBits(sum);
    }

    int count(int what) {
        switch (what) {
            case 0: return now.steps;
            case 1: return now.touches.size();
            case 2:
                int live = 0;
                for (int i = 0; i < now.touches.size(); i++) {
                    live += ofTouch(i, 3);
                }
                return live;
            case 3: return now.readings.size();
            case 4:
                int tracks = 0;
                for (int net = 1; net <= 7; net++) {
                    tracks += ofNet(net, 0);
                }
                return tracks;
            case 5: return suspects().size();
            case 6: return candidates().size();
            case 7: return pairs().size();
            case 8: return warmest();
            case 9: return now.spread;
            case 10: return now.loss;
            case 11: return now.power;
            case 12: return now.doubt;
            case 13: return pad.length();
            case 14: return past.size();
            default: return BAD_VALUE;
        }
    }

    private int warmest() {
        float[][] warmth = warmth();
        int best = 63;
        for (int place = 63; place >= 0; place--) {
            if (warmth[place / 8][place % 8] >= warmth[best / 8][best % 8]) {
                best = place;
            }
        }
        return best;
    }

    long mean() {
        double sum = 0.0;
        for (float[] row : warmth()) {
            for (float warmth : row) {
                sum += (double) warmth;
            }
        }
        return Double.doubleToLongBits(sum / 64.0);
    }

    // ---- what if

    int bestProbe(int what) {
        if (what < 0 || what > 1) {
            return BAD_VALUE;
        }
        List<Integer> candidates = candidates();
        if (candidates.size() < 2) {
            return NONE;
        }
        List<float[][]> fields = new ArrayList<>();
        for (int candidate : candidates) {
            fields.add(alone(candidate, now.steps));
        }
        int[] unlike = new int[64];
        for (int place = 0; place < 64; place++) {
            TreeSet<Integer> reads = new TreeSet<>();
            for (float[][] field : fields) {
                reads.add(readOf(field[place / 8][place % 8]));
            }
            unlike[place] = reads.size();
        }
        int best = 0;
        for (int place = 0; place < 64; place++) {
            best = unlike[place] > unlike[best] ? place : best;
        }
        return what == 0 ? best : unlike[best];
    }

    int readsIn(int row, int column, int read) {
        if (isOff(row, column)) {
            return NO_SUCH;
        }
        if (read < 1 || read > 9999) {
            return BAD_VALUE;
        }
        float[][] warmth = warmth();
        for (int steps = 0; steps <= 200; steps++) {
            if (readOf(warmth[row][column]) >= read) {
                return steps;
            }
            warmth = step(warmth, live());
        }
        return NONE;
    }

    int wouldRead(int row, int column, int suspectRow, int suspectColumn) {
        if (isOff(row, column) || isOff(suspectRow, suspectColumn) || !isSuspect(suspectRow, suspectColumn)) {
            return NO_SUCH;
        }
        return readOf(alone(8 * suspectRow + suspectColumn, now.steps)[row][column]);
    }

    // ---- texts

    int put(long characters) {
        StringBuilder more = new StringBuilder();
        boolean ended = false;
        for (int i = 0; i < 8; i++) {
            int code = (int) (characters >> 8 * i & 0xff);
            if (code == 0) {
                ended = true;
            } else if (ended || code < 33 || code > 126) {
                return BAD_VALUE;
            } else {
                more.insert(0, (char) code);
            }
        }
        if (more.length() == 0) {
            return BAD_VALUE;
        }
        if (pad.length() + more.length() > 80) {
            return TOO_MANY;
        }
        pad += more;
        return pad.length();
    }

    int wipe() {
        int length = pad.length();
        pad = "";
        return length;
    }

    /** A beginning of a text can stand if the text is whole there, or only more characters are missing. */
    int fault() {
        for (int i = 1; i <= pad.length(); i++) {
            Matcher matcher = TEXT.matcher(pad.substring(0, i));
            if (!matcher.matches() && !matcher.hitEnd()) {
                return i - 1;
            }
        }
        return TEXT.matcher(pad).matches() ? NONE : pad.length();
    }

    int carryOut() {
        if (fault() != NONE) {
            return BAD_TEXT;
        }
        return change(() -> {
            int done = 0;
            for (String order : orders()) {
                if (plainOrder(order) < 0) {
                    break;
                }
                done++;
            }
            pad = "";
            return done;
        });
    }

    /** A track at many places becomes as many orders of one place. */
    private List<String> orders() {
        List<String> orders = new ArrayList<>();
        for (String order : pad.split(";")) {
            if (order.startsWith("t")) {
                for (int i = 2; i < order.length(); i += 2) {
                    orders.add(order.substring(0, 2) + order.substring(i, i + 2));
                }
            } else {
                orders.add(order);
            }
        }
        return orders;
    }

    private int plainOrder(String order) {
        String rest = order.substring(1);
        switch (order.charAt(0)) {
            case 't': return plainTrack(rest.charAt(2) - '0', rest.charAt(1) - 'a', rest.charAt(0) - '0');
            case 'f': return plainFeed(rest.charAt(0) - '0', rest.charAt(1) - '0');
            case 's': return plainTouch(rest.charAt(1) - '0', rest.charAt(0) - 'a', rest.charAt(3) - '0');
            case 'm': return plainMend(Integer.parseInt(rest));
            case 'w': return plainWarm(Integer.parseInt(rest));
            default: return plainProbe(rest.charAt(1) - '0', rest.charAt(0) - 'a');
        }
    }

    // ---- undo, saving

    int undo() {
        if (past.isEmpty()) {
            return NOT_POSSIBLE;
        }
        now = past.remove(past.size() - 1);
        return past.size();
    }

    int save(int slot) {
        if (slot < 0 || slot > 1) {
            return BAD_VALUE;
        }
        slots[slot] = now.copy();
        return now.touches.size();
    }

    int restore(int slot) {
        if (slot < 0 || slot > 1) {
            return BAD_VALUE;
        }
        if (slots[slot] == null) {
            return NOT_POSSIBLE;
        }
        return change(() -> {
            now = slots[slot].copy();
            return now.touches.size();
        });
    }
}
