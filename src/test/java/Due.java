/** Counts and prints the calls whose answer is not the one that is due. */
final class Due {
    private int wrong = 0;

    void is(String call, long got, long want) {
        if (got != want) {
            wrong++;
            System.out.println(call + " answered " + got + ", due is " + want);
        }
    }

    /** The bits of a float are told as a float too, which is easier to read. */
    void isWarmth(String call, int got, float want) {
        if (got != Float.floatToIntBits(want)) {
            wrong++;
            System.out.println(call + " answered " + Float.intBitsToFloat(got) + ", due is " + want);
        }
    }

    void end() {
        System.out.println(wrong == 0 ? "all answers are as due" : wrong + " answers are not as due");
        if (wrong != 0) {
            System.exit(1);
        }
    }

    /** Appends a text of any length to the pad, and answers the last answer of put. */
    static int put(Counted x, String text) {
        int answer = x.wipe();
        for (int i = 0; i < text.length(); i += 8) {
            answer = x.put(characters(text.substring(i, Math.min(i + 8, text.length()))));
        }
        return answer;
    }

    static long characters(String text) {
        long characters = 0;
        for (int i = 0; i < text.length(); i++) {
            characters = characters << 8 | text.charAt(i);
        }
        return characters;
    }

    /** Carries a text out that has to be without a fault and an error. */
    static void carryOut(Counted x, String text, int orders) {
        put(x, text);
        int done = x.carryOut();
        if (done != orders) {
            throw new IllegalStateException(text + " answered " + done);
        }
    }
}
