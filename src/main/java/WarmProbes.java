/** Finds by probes of warmth where two tracks touch under paint. */
public final class WarmProbes {
    public static final int NO_SUCH = -1, BAD_VALUE = -2, BAD_TEXT = -3, TOO_MANY = -4, NOT_POSSIBLE = -5, NONE = -6;
    public static final int SPREAD = 0, LOSS = 1, POWER = 2, DOUBT = 3;

    private static final int SETTINGS = 4;
    private static final int[] LEAST_VALUES = {0, 0, 1, 0};
    private static final int[] MOST_VALUES = {24, 50, 99, 99};
    private static final int[] FIRST_VALUES = {15, 5, 20, 3};

    private static final int SIDE = 8;
    private static final int SIDES_OF_A_PLACE = 4;
    private static final int PLACES = 64;
    private static final int MOST_NETS = 7;
    private static final int MOST_TOUCHES = 3;
    private static final int MOST_READINGS = 8;
    private static final int MOST_STEPS = 100;
    private static final int MOST_STEPS_AT_ONCE = 50;
    private static final int MOST_STEPS_AHEAD = 200;
    private static final int MOST_READ_ASKED = 9999;
    private static final int MOST_CHANGES = 6;
    private static final int SLOTS = 2;
    private static final int MOST_CHARACTERS = 80;
    private static final int CHARACTERS_AT_ONCE = 8;

    private final Board board = new Board();
    private final Board ahead = new Board();
    private final Suspicion suspicion = new Suspicion();
    private final Past past = new Past();
    private final Pad pad = new Pad();
    private final Board[] slots = new Board[SLOTS];
    private final boolean[] isSaved = new boolean[SLOTS];

    public WarmProbes() {
        for (int i = 0; i < SLOTS; i++) {
            slots[i] = new Board();
        }
    }

    // ---- changes

    public int set(int setting, int value) {
        past.prepare(board);
        return past.kept(board.change(setting, value));
    }

    public int track(int row, int column, int net) {
        past.prepare(board);
        return past.kept(board.lay(row, column, net));
    }

    public int touch(int row, int column, int net) {
        past.prepare(board);
        return past.kept(board.join(row, column, net));
    }

    public int mend(int touch) {
        past.prepare(board);
        return past.kept(board.part(touch));
    }

    public int feed(int net, int other) {
        past.prepare(board);
        return past.kept(board.turnPair(net, other));
    }

    public int cool() {
        past.prepare(board);
        int steps = board.steps;
        board.beginRun();
        return past.kept(steps);
    }

    public int warm(int steps) {
        past.prepare(board);
        return past.kept(board.letPass(steps));
    }

    public int probe(int row, int column) {
        past.prepare(board);
        return past.kept(board.measure(row, column));
    }

    // ---- what there is

    public int at(int row, int column, int what) {
        int place = placeOf(row, column);
        if (place < 0) {
            return NO_SUCH;
        }
        switch (what) {
            case 0:
                return board.nets[place];
            case 1:
                return bitsOfFloat(board.warmth[place]);
            case 2:
                return readOf(board.warmth[place]);
            case 3:
                return board.isSuspect(place) ? 1 : 0;
            case 4:
                return suspicion.couldBe(board, place) ? 1 : 0;
            case 5:
                return suspicion.couldBeOneOfTwo(board, place) ? 1 : 0;
            case 6:
                return board.touchAt(place);
            default:
                return BAD_VALUE;
        }
    }

    public int row(int row, int what) {
        if (row < 0 || row >= SIDE) {
            return NO_SUCH;
        }
        switch (what) {
            case 0:
                return columnsOf(board.tracked(), row);
            case 1:
                return columnsOf(board.suspects(), row);
            case 2:
                return columnsOf(suspicion.fitting(board), row);
            default:
                return BAD_VALUE;
        }
    }

    public int ofTouch(int touch, int what) {
        if (touch < 0 || touch >= board.touches) {
            return NO_SUCH;
        }
        switch (what) {
            case 0:
                return board.touchPlaces[touch];
            case 1:
                return board.nets[board.touchPlaces[touch]];
            case 2:
                return board.touchOthers[touch];
            case 3:
                return board.isLive(touch) ? 1 : 0;
            default:
                return BAD_VALUE;
        }
    }

    public int reading(int reading, int what) {
        if (reading < 0 || reading >= board.readings) {
            return NO_SUCH;
        }
        switch (what) {
            case 0:
                return board.readingPlaces[reading];
            case 1:
                return board.readingReads[reading];
            case 2:
                return board.readingSteps[reading];
            default:
                return BAD_VALUE;
        }
    }

    public int ofNet(int net, int what) {
        if (!isNet(net)) {
            return NO_SUCH;
        }
        switch (what) {
            case 0:
                return board.placesOf(net);
            case 1:
                return board.fed[net];
            case 2:
                return bitsOfFloat(board.warmthOf(net));
            default:
                return BAD_VALUE;
        }
    }

    public int count(int what) {
        switch (what) {
            case 0:
                return board.steps;
            case 1:
                return board.touches;
            case 2:
                return Long.bitCount(board.heated());
            case 3:
                return board.readings;
            case 4:
                return Long.bitCount(board.tracked());
            case 5:
                return Long.bitCount(board.suspects());
            case 6:
                return Long.bitCount(suspicion.fitting(board));
            case 7:
                return suspicion.pairs(board);
            case 8:
                return board.warmest();
            case 9:
            case 10:
            case 11:
            case 12:
                return board.settings[what - 9];
            case 13:
                return pad.length;
            case 14:
                return past.size;
            default:
                return BAD_VALUE;
        }
    }

    public long mean() {
        double sum = 0.0;
        for (int place = 0; place < PLACES; place++) {
            sum = sum + (double) board.warmth[place];
        }
        return bitsOfDouble(sum / 64.0);
    }

    // ---- what if; nothing changes

    public int bestProbe(int what) {
        if (what != 0 && what != 1) {
            return BAD_VALUE;
        }
        long fitting = suspicion.fitting(board);
        if (Long.bitCount(fitting) < 2) {
            return NONE;
        }
        int best = 0;
        int most = 0;
        for (int place = 0; place < PLACES; place++) {
            int unlike = suspicion.unlikeReads(board, fitting, place);
            if (unlike > most) {
                most = unlike;
                best = place;
            }
        }
        return what == 0 ? best : most;
    }

    public int readsIn(int row, int column, int read) {
        int place = placeOf(row, column);
        if (place < 0) {
            return NO_SUCH;
        }
        if (read < 1 || read > MOST_READ_ASKED) {
            return BAD_VALUE;
        }
        ahead.takeOver(board);
        long heated = ahead.heated();
        for (int steps = 0; steps <= MOST_STEPS_AHEAD; steps++) {
            if (readOf(ahead.warmth[place]) >= read) {
                return steps;
            }
            ahead.passOne(heated);
        }
        return NONE;
    }

    public int wouldRead(int row, int column, int suspectRow, int suspectColumn) {
        int place = placeOf(row, column);
        int suspect = placeOf(suspectRow, suspectColumn);
        if (place < 0 || suspect < 0 || !board.isSuspect(suspect)) {
            return NO_SUCH;
        }
        return suspicion.readBy(board, suspect, place);
    }

    // ---- texts

    public int put(long characters) {
        return pad.append(characters);
    }

    public int wipe() {
        return pad.clear();
    }

    public int fault() {
        return pad.firstFault();
    }

    public int carryOut() {
        if (pad.firstFault() != NONE) {
            return BAD_TEXT;
        }
        past.prepare(board);
        int done = carriedOut();
        pad.clear();
        return past.kept(done);
    }

    // ---- undo, saving

    public int undo() {
        return past.goBack(board);
    }

    public int save(int slot) {
        if (slot < 0 || slot >= SLOTS) {
            return BAD_VALUE;
        }
        slots[slot].takeOver(board);
        isSaved[slot] = true;
        return board.touches;
    }

    public int restore(int slot) {
        if (slot < 0 || slot >= SLOTS) {
            return BAD_VALUE;
        }
        if (!isSaved[slot]) {
            return NOT_POSSIBLE;
        }
        past.prepare(board);
        board.takeOver(slots[slot]);
        return past.kept(board.touches);
    }

    // ---- orders of a text without a fault

    private int carriedOut() {
        int done = 0;
        int start = 0;
        for (int order = 0; order < MOST_CHARACTERS && start < pad.length; order++) {
            int end = pad.endOfOrder(start);
            int wanted = pad.ordersIn(start, end);
            for (int i = 0; i < wanted; i++) {
                if (answerOf(start, end, i) < 0) {
                    return done;
                }
                done++;
            }
            start = end + 1;
        }
        return done;
    }

    /** Only a track has more than one order, one for each of its places. */
    private int answerOf(int start, int end, int order) {
        switch (pad.codeAt(start)) {
            case 't':
                int place = start + 2 + 2 * order;
                return board.lay(pad.digitAt(place + 1), pad.columnAt(place), pad.digitAt(start + 1));
            case 'f':
                return board.turnPair(pad.digitAt(start + 1), pad.digitAt(start + 2));
            case 's':
                return board.join(pad.digitAt(start + 2), pad.columnAt(start + 1), pad.digitAt(start + 4));
            case 'm':
                return board.part(pad.digitAt(start + 1));
            case 'w':
                return board.letPass(pad.numberIn(start + 1, end));
            default:
                return board.measure(pad.digitAt(start + 2), pad.columnAt(start + 1));
        }
    }

    // ---- places and nets

    private static int placeOf(int row, int column) {
        return row < 0 || row >= SIDE || column < 0 || column >= SIDE ? NO_SUCH : SIDE * row + column;
    }

    private static int neighbourOf(int place, int side) {
        switch (side) {
            case 0:
                return place >= SIDE ? place - SIDE : NONE;
            case 1:
                return place < PLACES - SIDE ? place + SIDE : NONE;
            case 2:
                return place % SIDE > 0 ? place - 1 : NONE;
            default:
                return place % SIDE < SIDE - 1 ? place + 1 : NONE;
        }
    }

    private static boolean areNeighbours(int place, int other) {
        for (int side = 0; side < SIDES_OF_A_PLACE; side++) {
            if (neighbourOf(place, side) == other) {
                return true;
            }
        }
        return false;
    }

    private static boolean isNet(int net) {
        return net >= 1 && net <= MOST_NETS;
    }

    private static boolean isIn(long places, int place) {
        return (places >>> place & 1L) != 0L;
    }

    private static int columnsOf(long places, int row) {
        return (int) (places >>> SIDE * row & 255L);
    }

    // ---- warmth

    private static int readOf(float warmth) {
        return (int) (warmth * 10.0f);
    }

    /** Both fields are parts of rows of fields, so that a row can hold the field of each step. */
    private static void step(float[] from, int start, float[] to, int toStart, long heated, int[] settings) {
        float spread = (float) settings[SPREAD];
        float left = (float) (100 - settings[LOSS]);
        float power = (float) settings[POWER];
        for (int place = 0; place < PLACES; place++) {
            int here = start + place;
            float w = from[here];
            float t = 0.0f;
            if (place >= SIDE) {
                t = t + (from[here - SIDE] - w) * spread / 100.0f;
            }
            if (place < PLACES - SIDE) {
                t = t + (from[here + SIDE] - w) * spread / 100.0f;
            }
            if (place % SIDE > 0) {
                t = t + (from[here - 1] - w) * spread / 100.0f;
            }
            if (place % SIDE < SIDE - 1) {
                t = t + (from[here + 1] - w) * spread / 100.0f;
            }
            float warmth = (w + t) * left / 100.0f;
            to[toStart + place] = isIn(heated, place) ? warmth + power : warmth;
        }
    }

    /**
     * The library that the program keeps to has no Float.floatToIntBits. Warmth is never below 0 and far below 2^24, so
     * that it only has to be doubled until its digits are a whole number, which loses nothing.
     */
    private static int bitsOfFloat(float warmth) {
        float number = warmth;
        int exponent = 150;
        for (; exponent > 1 && number < 8388608.0f; exponent--) {
            number = number * 2.0f;
        }
        int digits = (int) number;
        return digits < 8388608 ? digits : (exponent << 23) + (digits - 8388608);
    }

    /** As bitsOfFloat, with the 53 binary digits of a double. */
    private static long bitsOfDouble(double warmth) {
        double number = warmth;
        long exponent = 1075L;
        for (; exponent > 1L && number < 4503599627370496.0; exponent--) {
            number = number * 2.0;
        }
        long digits = (long) number;
        return digits < 4503599627370496L ? digits : (exponent << 52) + (digits - 4503599627370496L);
    }

    /** All that undo and the slots bring back: settings, tracks, pairs, touches and the run. */
    private static final class Board {
        private final int[] settings = new int[SETTINGS];
        private final int[] nets = new int[PLACES];
        private final int[] fed = new int[MOST_NETS + 1];
        private int touches = 0;
        private final int[] touchPlaces = new int[MOST_TOUCHES];
        private final int[] touchOthers = new int[MOST_TOUCHES];
        private int steps = 0;
        private final float[] warmth = new float[PLACES];
        private final float[] nextWarmth = new float[PLACES];
        private int readings = 0;
        private final int[] readingPlaces = new int[MOST_READINGS];
        private final int[] readingReads = new int[MOST_READINGS];
        private final int[] readingSteps = new int[MOST_READINGS];

        private Board() {
            System.arraycopy(FIRST_VALUES, 0, settings, 0, SETTINGS);
        }

        private void takeOver(Board other) {
            System.arraycopy(other.settings, 0, settings, 0, SETTINGS);
            System.arraycopy(other.nets, 0, nets, 0, PLACES);
            System.arraycopy(other.fed, 0, fed, 0, MOST_NETS + 1);
            touches = other.touches;
            System.arraycopy(other.touchPlaces, 0, touchPlaces, 0, MOST_TOUCHES);
            System.arraycopy(other.touchOthers, 0, touchOthers, 0, MOST_TOUCHES);
            steps = other.steps;
            System.arraycopy(other.warmth, 0, warmth, 0, PLACES);
            readings = other.readings;
            System.arraycopy(other.readingPlaces, 0, readingPlaces, 0, MOST_READINGS);
            System.arraycopy(other.readingReads, 0, readingReads, 0, MOST_READINGS);
            System.arraycopy(other.readingSteps, 0, readingSteps, 0, MOST_READINGS);
        }

        private void beginRun() {
            steps = 0;
            readings = 0;
            for (int place = 0; place < PLACES; place++) {
                warmth[place] = 0.0f;
            }
        }

        private int change(int setting, int value) {
            if (setting < 0 || setting >= SETTINGS) {
                return BAD_VALUE;
            }
            if (value < LEAST_VALUES[setting] || value > MOST_VALUES[setting]) {
                return BAD_VALUE;
            }
            int before = settings[setting];
            settings[setting] = value;
            if (setting != DOUBT) {
                beginRun();
            }
            return before;
        }

        private int lay(int row, int column, int net) {
            int place = placeOf(row, column);
            if (place < 0) {
                return NO_SUCH;
            }
            if (net != 0 && !isNet(net)) {
                return BAD_VALUE;
            }
            if (isNeededByTouch(place)) {
                return NOT_POSSIBLE;
            }
            int before = nets[place];
            nets[place] = net;
            beginRun();
            return before;
        }

        private boolean isNeededByTouch(int place) {
            for (int i = 0; i < touches; i++) {
                if (touchPlaces[i] == place) {
                    return true;
                }
                if (areNeighbours(touchPlaces[i], place) && touchOthers[i] == nets[place]) {
                    return true;
                }
            }
            return false;
        }

        private int join(int row, int column, int net) {
            int place = placeOf(row, column);
            if (place < 0) {
                return NO_SUCH;
            }
            if (!isNet(net)) {
                return BAD_VALUE;
            }
            if (nets[place] == 0 || nets[place] == net || touchAt(place) != NONE || !hasNeighbourOf(place, net)) {
                return NOT_POSSIBLE;
            }
            if (touches >= MOST_TOUCHES) {
                return TOO_MANY;
            }
            touchPlaces[touches] = place;
            touchOthers[touches] = net;
            touches++;
            beginRun();
            return touches - 1;
        }

        private boolean hasNeighbourOf(int place, int net) {
            for (int side = 0; side < SIDES_OF_A_PLACE; side++) {
                int neighbour = neighbourOf(place, side);
                if (neighbour >= 0 && nets[neighbour] == net) {
                    return true;
                }
            }
            return false;
        }

        private int part(int touch) {
            if (touch < 0 || touch >= touches) {
                return NO_SUCH;
            }
            for (int i = touch; i < touches - 1; i++) {
                touchPlaces[i] = touchPlaces[i + 1];
                touchOthers[i] = touchOthers[i + 1];
            }
            touches--;
            beginRun();
            return touches;
        }

        private int turnPair(int net, int other) {
            if (!isNet(net) || !isNet(other)) {
                return NO_SUCH;
            }
            if (net == other) {
                return BAD_VALUE;
            }
            fed[net] = fed[net] ^ 1 << other;
            fed[other] = fed[other] ^ 1 << net;
            beginRun();
            return isFed(net, other) ? 1 : 0;
        }

        private boolean isFed(int net, int other) {
            return (fed[net] >>> other & 1) != 0;
        }

        private int letPass(int many) {
            if (many < 1 || many > MOST_STEPS_AT_ONCE) {
                return BAD_VALUE;
            }
            if (steps + many > MOST_STEPS) {
                return NOT_POSSIBLE;
            }
            long heated = heated();
            for (int i = 0; i < many; i++) {
                passOne(heated);
            }
            steps = steps + many;
            return steps;
        }

        private void passOne(long heated) {
            step(warmth, 0, nextWarmth, 0, heated, settings);
            System.arraycopy(nextWarmth, 0, warmth, 0, PLACES);
        }

        private int measure(int row, int column) {
            int place = placeOf(row, column);
            if (place < 0) {
                return NO_SUCH;
            }
            if (readings >= MOST_READINGS) {
                return TOO_MANY;
            }
            int read = readOf(warmth[place]);
            readingPlaces[readings] = place;
            readingReads[readings] = read;
            readingSteps[readings] = steps;
            readings++;
            return read;
        }

        private int touchAt(int place) {
            for (int i = 0; i < touches; i++) {
                if (touchPlaces[i] == place) {
                    return i;
                }
            }
            return NONE;
        }

        private boolean isLive(int touch) {
            return isFed(nets[touchPlaces[touch]], touchOthers[touch]);
        }

        private long heated() {
            long places = 0L;
            for (int i = 0; i < touches; i++) {
                if (isLive(i)) {
                    places = places | 1L << touchPlaces[i];
                }
            }
            return places;
        }

        private long tracked() {
            long places = 0L;
            for (int place = 0; place < PLACES; place++) {
                if (nets[place] != 0) {
                    places = places | 1L << place;
                }
            }
            return places;
        }

        private long suspects() {
            long places = 0L;
            for (int place = 0; place < PLACES; place++) {
                if (isSuspect(place)) {
                    places = places | 1L << place;
                }
            }
            return places;
        }

        /** The net 0 and a net itself are in no pair that is fed. */
        private boolean isSuspect(int place) {
            for (int side = 0; side < SIDES_OF_A_PLACE; side++) {
                int neighbour = neighbourOf(place, side);
                if (neighbour >= 0 && isFed(nets[place], nets[neighbour])) {
                    return true;
                }
            }
            return false;
        }

        private int placesOf(int net) {
            int places = 0;
            for (int place = 0; place < PLACES; place++) {
                if (nets[place] == net) {
                    places++;
                }
            }
            return places;
        }

        private float warmthOf(int net) {
            float sum = 0.0f;
            for (int place = 0; place < PLACES; place++) {
                if (nets[place] == net) {
                    sum = sum + warmth[place];
                }
            }
            return sum;
        }

        private int warmest() {
            int best = 0;
            for (int place = 1; place < PLACES; place++) {
                if (warmth[place] > warmth[best]) {
                    best = place;
                }
            }
            return best;
        }
    }

    /**
     * What a live touch at a place alone makes, by the settings. The field of every step is kept, since many calls ask
     * for the same ones; the row of a place is made only when the place is asked for.
     */
    private static final class Lone {
        private final int[] settings = new int[SETTINGS];
        private final float[][] fields = new float[PLACES][];
        private final int[] steps = new int[PLACES];

        /** Fields that other settings made are not looked at again. */
        private void follow(int[] current) {
            if (settings[SPREAD] == current[SPREAD] && settings[LOSS] == current[LOSS]
                    && settings[POWER] == current[POWER]) {
                return;
            }
            System.arraycopy(current, 0, settings, 0, SETTINGS);
            for (int source = 0; source < PLACES; source++) {
                steps[source] = 0;
            }
        }

        private float warmthBy(int source, int behind, int place) {
            if (fields[source] == null) {
                fields[source] = new float[(MOST_STEPS + 1) * PLACES];
            }
            float[] row = fields[source];
            for (int i = steps[source]; i < behind && i < MOST_STEPS; i++) {
                step(row, i * PLACES, row, (i + 1) * PLACES, 1L << source, settings);
                steps[source] = i + 1;
            }
            return row[behind * PLACES + place];
        }
    }

    /** Where touches could be, by the readings of a board. */
    private static final class Suspicion {
        private final Lone lone = new Lone();
        private final int[] reads = new int[PLACES];

        private boolean couldBe(Board board, int place) {
            return board.isSuspect(place) && fits(board, place, NONE);
        }

        private long fitting(Board board) {
            long places = 0L;
            for (int place = 0; place < PLACES; place++) {
                if (couldBe(board, place)) {
                    places = places | 1L << place;
                }
            }
            return places;
        }

        private int pairs(Board board) {
            long suspects = board.suspects();
            int many = 0;
            for (int low = 0; low < PLACES; low++) {
                for (int high = low + 1; high < PLACES; high++) {
                    if (isIn(suspects, low) && isIn(suspects, high) && fits(board, low, high)) {
                        many++;
                    }
                }
            }
            return many;
        }

        private boolean couldBeOneOfTwo(Board board, int place) {
            if (!board.isSuspect(place)) {
                return false;
            }
            for (int other = 0; other < PLACES; other++) {
                if (other != place && board.isSuspect(other)
                        && fits(board, Math.min(place, other), Math.max(place, other))) {
                    return true;
                }
            }
            return false;
        }

        /** Whether all readings could come from both places; high is NONE for one place alone. */
        private boolean fits(Board board, int low, int high) {
            lone.follow(board.settings);
            for (int i = 0; i < board.readings; i++) {
                float warmth = lone.warmthBy(low, board.readingSteps[i], board.readingPlaces[i]);
                if (high != NONE) {
                    warmth = warmth + lone.warmthBy(high, board.readingSteps[i], board.readingPlaces[i]);
                }
                if (Math.abs(readOf(warmth) - board.readingReads[i]) > board.settings[DOUBT]) {
                    return false;
                }
            }
            return true;
        }

        private int readBy(Board board, int source, int place) {
            lone.follow(board.settings);
            return readOf(lone.warmthBy(source, board.steps, place));
        }

        private int unlikeReads(Board board, long sources, int place) {
            int unlike = 0;
            for (int source = 0; source < PLACES; source++) {
                if (isIn(sources, source)) {
                    int read = readBy(board, source, place);
                    if (!isAmong(unlike, read)) {
                        reads[unlike] = read;
                        unlike++;
                    }
                }
            }
            return unlike;
        }

        private boolean isAmong(int many, int read) {
            for (int i = 0; i < many; i++) {
                if (reads[i] == read) {
                    return true;
                }
            }
            return false;
        }
    }

    /** The states that undo goes back to, the oldest first; the one behind them is spare. */
    private static final class Past {
        private final Board[] states = new Board[MOST_CHANGES + 1];
        private int size = 0;

        private Past() {
            for (int i = 0; i <= MOST_CHANGES; i++) {
                states[i] = new Board();
            }
        }

        /** A change tells only by its answer whether it is one, so the state ahead of it is held in the spare. */
        private void prepare(Board board) {
            states[size].takeOver(board);
        }

        private int kept(int answer) {
            if (answer < 0) {
                return answer;
            }
            if (size < MOST_CHANGES) {
                size++;
                return answer;
            }
            Board oldest = states[0];
            for (int i = 0; i < MOST_CHANGES; i++) {
                states[i] = states[i + 1];
            }
            states[MOST_CHANGES] = oldest;
            return answer;
        }

        private int goBack(Board board) {
            if (size == 0) {
                return NOT_POSSIBLE;
            }
            size--;
            board.takeOver(states[size]);
            return size;
        }
    }

    /** The text of orders. */
    private static final class Pad {
        private final int[] codes = new int[MOST_CHARACTERS];
        private int length = 0;

        private int append(long characters) {
            int many = 0;
            long rest = characters;
            for (; many < CHARACTERS_AT_ONCE && (rest & 255L) != 0L; many++) {
                if ((rest & 255L) < 33L || (rest & 255L) > 126L) {
                    return BAD_VALUE;
                }
                rest = rest >>> 8;
            }
            if (many == 0 || rest != 0L) {
                return BAD_VALUE;
            }
            if (length + many > MOST_CHARACTERS) {
                return TOO_MANY;
            }
            for (int i = 0; i < many; i++) {
                codes[length + i] = (int) (characters >>> 8 * (many - 1 - i) & 255L);
            }
            length = length + many;
            return length;
        }

        private int clear() {
            int before = length;
            length = 0;
            return before;
        }

        /** Behind the text there is the code 0, which stands nowhere in an order. */
        private int codeAt(int index) {
            return index >= 0 && index < length ? codes[index] : 0;
        }

        private int digitAt(int index) {
            return codeAt(index) - '0';
        }

        private int columnAt(int index) {
            return codeAt(index) - 'a';
        }

        private boolean isDigit(int index) {
            return codeAt(index) >= '0' && codeAt(index) <= '9';
        }

        private boolean isColumn(int index) {
            return codeAt(index) >= 'a' && codeAt(index) <= 'h';
        }

        private int firstFault() {
            int start = 0;
            for (int order = 0; order < MOST_CHARACTERS; order++) {
                int end = endOfOrder(start);
                if (end < 0) {
                    return ~end;
                }
                if (end >= length) {
                    return NONE;
                }
                if (codeAt(end) != ';') {
                    return end;
                }
                start = end + 1;
            }
            return length;
        }

        /** The index behind the order, or ~ of the index of its fault. */
        private int endOfOrder(int start) {
            switch (codeAt(start)) {
                case 't':
                    return endOfPlaces(endOf("dcd", start + 1));
                case 'f':
                    return endOf("dd", start + 1);
                case 's':
                    return endOf("cd=d", start + 1);
                case 'm':
                    return endOf("d", start + 1);
                case 'w':
                    return endOfNumber(start + 1);
                case 'p':
                    return endOf("cd", start + 1);
                default:
                    return ~start;
            }
        }

        /** In a form a d is for any digit and a c for any column. */
        private int endOf(String form, int start) {
            for (int i = 0; i < form.length(); i++) {
                char wanted = form.charAt(i);
                boolean stands = wanted == 'd' ? isDigit(start + i)
                    : wanted == 'c' ? isColumn(start + i) : codeAt(start + i) == wanted;
                if (!stands) {
                    return ~(start + i);
                }
            }
            return start + form.length();
        }

        private int endOfPlaces(int start) {
            int end = start;
            for (int i = 0; i < MOST_CHARACTERS && end >= 0 && isColumn(end); i++) {
                end = endOf("cd", end);
            }
            return end;
        }

        private int endOfNumber(int start) {
            if (!isDigit(start)) {
                return ~start;
            }
            return codeAt(start) != '0' && isDigit(start + 1) ? start + 2 : start + 1;
        }

        private int numberIn(int start, int end) {
            int number = 0;
            for (int i = start; i < end; i++) {
                number = 10 * number + digitAt(i);
            }
            return number;
        }

        /** Each place of a track is an order of its own. */
        private int ordersIn(int start, int end) {
            return codeAt(start) == 't' ? (end - start - 2) / 2 : 1;
        }
    }
}
