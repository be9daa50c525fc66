/**
 * The grammar of the pad, exhaustively: behind each beginning of an order, each of the 94 characters that put takes
 * stands, or cannot stand there; and each beginning ends too early, or does not.
 */
public final class GrammarTest {
    private static final Due DUE = new Due();
    private static final String DIGITS = "0123456789";
    private static final String COLUMNS = "abcdefgh";
    private static final String ORDERS = "tfsmwp";
    /** A beginning, what can stand behind it, and whether it is an order as it is. */
    private static final String[][] BEGINNINGS = {
        {"", ORDERS, "no"},
        {"t", DIGITS, "no"}, {"t0", COLUMNS, "no"}, {"t9", COLUMNS, "no"}, {"t1a", DIGITS, "no"},
        {"t1h", DIGITS, "no"}, {"t1a0", COLUMNS + ";", "yes"}, {"t1h9", COLUMNS + ";", "yes"},
        {"t1a0b", DIGITS, "no"}, {"t1a0b1", COLUMNS + ";", "yes"}, {"t1a0b1c", DIGITS, "no"},
        {"f", DIGITS, "no"}, {"f0", DIGITS, "no"}, {"f9", DIGITS, "no"}, {"f00", ";", "yes"}, {"f99", ";", "yes"},
        {"s", COLUMNS, "no"}, {"sa", DIGITS, "no"}, {"sh", DIGITS, "no"}, {"sa0", "=", "no"}, {"sh9", "=", "no"},
        {"sa0=", DIGITS, "no"}, {"sa0=0", ";", "yes"}, {"sh9=9", ";", "yes"},
        {"m", DIGITS, "no"}, {"m0", ";", "yes"}, {"m9", ";", "yes"},
        {"w", DIGITS, "no"}, {"w0", ";", "yes"}, {"w1", DIGITS + ";", "yes"}, {"w9", DIGITS + ";", "yes"},
        {"w10", ";", "yes"}, {"w50", ";", "yes"}, {"w99", ";", "yes"},
        {"p", COLUMNS, "no"}, {"pa", DIGITS, "no"}, {"ph", DIGITS, "no"}, {"pa0", ";", "yes"}, {"ph9", ";", "yes"}};

    public static void main(String[] args) {
        String[] ahead = {"", "w1;", "t1a0b1c2;", "w0;f11;sa0=0;m0;pa0;w10;", "m0;".repeat(23)};
        for (String orders : ahead) {
            for (String[] beginning : BEGINNINGS) {
                ending(orders + beginning[0], beginning[2].equals("yes"));
                for (char next = 33; next <= 126; next++) {
                    next(orders + beginning[0], beginning[1], next);
                }
            }
        }
        numbers();
        firstOfTwoFaults();
        DUE.end();
    }

    private static int faultOf(String text) {
        Counted x = new Counted();
        int length = Due.put(x, text);
        DUE.is("put of " + text, length, text.length());
        return x.fault();
    }

    /** "if there is none and the text ends too early (also if it is empty), it is the length of the text". */
    private static void ending(String text, boolean isWhole) {
        DUE.is("fault of " + text, faultOf(text), isWhole ? WarmProbes.NONE : text.length());
    }

    /** "the index of the first character that cannot stand at its place when the text is read from left to right". */
    private static void next(String text, String canStand, char next) {
        if (canStand.indexOf(next) < 0) {
            DUE.is("fault of " + text + next, faultOf(text + next), text.length());
            DUE.is("fault of " + text + next + "!", faultOf(text + next + "!"), text.length());
            DUE.is("fault of " + text + next + ";w1", faultOf(text + next + ";w1"), text.length());
        } else {
            int fault = faultOf(text + next);
            DUE.is("no fault in " + text + next, fault == WarmProbes.NONE || fault == text.length() + 1 ? 1 : 0, 1);
            DUE.is("fault of " + text + next + "!", faultOf(text + next + "!"), text.length() + 1);
        }
    }

    /** "a number 0 to 99, without leading zeros"; "also of a digit by which a number would be above 99". */
    private static void numbers() {
        for (int number = 0; number <= 120; number++) {
            DUE.is("w" + number, faultOf("w" + number), number <= 99 ? WarmProbes.NONE : 3);
            DUE.is("w" + number + ";m0", faultOf("w" + number + ";m0"), number <= 99 ? WarmProbes.NONE : 3);
            DUE.is("w0" + number, faultOf("w0" + number), 2);
            Counted x = new Counted();
            if (number <= 99) {
                Due.put(x, "w" + number);
                DUE.is("carry out w" + number, x.carryOut(), number >= 1 && number <= 50 ? 1 : 0);
                DUE.is("steps by w" + number, x.count(0), number >= 1 && number <= 50 ? number : 0);
            }
        }
        DUE.is("999", faultOf("w999"), 3);
        DUE.is("1000", faultOf("w1000"), 3);
        DUE.is("2147483648", faultOf("w2147483648"), 3);
        DUE.is("4294967297", faultOf("w4294967297"), 3);
    }

    private static void firstOfTwoFaults() {
        DUE.is("two orders with faults", faultOf("w100;f1x"), 3);
        DUE.is("a fault and an early end", faultOf("m11;f1"), 2);
        DUE.is("only an early end", faultOf("m1;f1"), 5);
        DUE.is("two marks", faultOf("m1;;m1"), 3);
        DUE.is("a mark at the end", faultOf("m1;"), 3);
        DUE.is("a mark at the begin", faultOf(";m1"), 0);
        DUE.is("a mark alone", faultOf(";"), 0);
    }
}
