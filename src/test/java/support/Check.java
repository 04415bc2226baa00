import java.util.function.LongSupplier;

/** What the tests share: telling texts, and counting answers that are not as due. */
final class Check {
    private static int wrong = 0;
    private static int asked = 0;

    private Check() {
    }

    /** A new object that has done the LINES of these texts, one text after the other. */
    static CarryUp told(String... texts) {
        CarryUp x = new CarryUp();
        for (String text : texts) tell(x, text);
        return x;
    }

    /** Writes a text and has its LINES done; a FAULT in it is an error of the test. */
    static void tell(CarryUp x, String text) {
        write(x, text);
        int lines = x.day();
        if (lines < 1) due("day of '" + text + "' (fault " + x.fault() + ")", lines, text.split(";").length);
    }

    /** Writes a text, 8 bytes at a time, each character as its byte. */
    static void write(CarryUp x, String text) {
        for (int i = 0; i < text.length(); i += 8) {
            int n = Math.min(8, text.length() - i);
            x.write(bytes(text.substring(i, i + n)), n);
        }
    }

    static long bytes(String eightAtMost) {
        long bytes = 0;
        for (int i = 0; i < eightAtMost.length(); i++) bytes |= (long) (eightAtMost.charAt(i) & 255) << 8 * i;
        return bytes;
    }

    /** Writes a text, looks where its FAULT is, and erases it. */
    static void fault(CarryUp x, String text, int want) {
        write(x, text);
        due("fault of '" + text + "'", x.fault(), want);
        due("erase of '" + text + "'", x.erase(), text.length());
    }

    static void due(String what, long got, long want) {
        asked++;
        if (got == want) return;
        wrong++;
        System.out.println(what + " answered " + got + ", due is " + want);
    }

    /** A call that is refused: its answer, and that all that can be asked is as it was ahead of it. */
    static void refused(CarryUp x, String what, LongSupplier call, long want) {
        String ahead = State.of(x);
        due(what, call.getAsLong(), want);
        yes("nothing has changed behind " + what, State.of(x).equals(ahead));
    }

    static void yes(String what, boolean holds) {
        due(what, holds ? 1 : 0, 1);
    }

    /** Ends the test: exit code 1 if an answer was not as due. */
    static void end() {
        System.out.println(asked + " answers, " + wrong + " not as due");
        if (wrong != 0 || asked == 0) System.exit(1);
    }
}
