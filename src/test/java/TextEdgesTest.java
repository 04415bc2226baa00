/**
 * Terms, THE TEXT, and promises 1 to 5: how long it may be, how many LINES, which TOKENS and blanks, what ends too soon,
 * which FAULT is the first one, and that a text with a FAULT does nothing.
 */
public final class TextEdgesTest {
    /** Each form of a LINE, a blank between all TOKENS. */
    private static final String[] LINES = {"thing a 1 0 part", "thing h 99 99 tool", "load 400", "purse 999", "begin 1439",
        "way 0 5 200", "call 5 5 1439 1439 99 99 99", "sort 0 20 200 none", "sort 5 1 0 abcdefgh", "sort 0 1 0 none or h",
        "sort 0 1 0 ha or ah"};
    private static final String TEN = "load 0;load 1;load 2;load 3;load 4;load 5;load 6;load 7;load 8;load 9";

    public static void main(String[] args) {
        howManyBytesAreWritten();
        whichBytesAreWritten();
        twoHundredBytes();
        fullAtEachLength();
        eraseAndAgain();
        anEmptyText();
        oneToTenLines();
        behindTheTenth();
        aFaultInEachLine();
        theFirstOfManyFaults();
        whatEndsTooSoon();
        whatCannotStand();
        whatCannotStandBehind();
        blanks();
        noBlankIsNeeded();
        blanksThatAreNeeded();
        whatIsNoBlank();
        lettersAndDigits();
        lettersOfThings();
        wordsOfThings();
        theWordNone();
        linesAreReadAlone();
        objectsAreApart();
        Check.end();
    }

    private static CarryUp written(String text) {
        CarryUp x = new CarryUp();
        Check.write(x, text);
        return x;
    }

    private static void fault(String text, int want) {
        CarryUp x = written(text);
        Check.due("fault of '" + text + "'", x.fault(), want);
        if (want == CarryUp.NONE) return;
        Check.refused(x, "day of '" + text + "'", x::day, CarryUp.NOT);
        Check.due("bytes of '" + text + "'", x.erase(), text.length());
    }

    // ---- promises 2, 3: write, erase

    private static void howManyBytesAreWritten() {
        CarryUp x = new CarryUp();
        int all = 0;
        for (int n = 1; n <= 8; n++) {
            all += n;
            Check.due("write " + n, x.write(0, n), all);
            Check.due("count behind " + n, x.count(1), all);
        }
        for (int n : new int[] {0, -1, -8, 9, 10, 16, 256 + 1, Integer.MIN_VALUE, Integer.MAX_VALUE}) {
            Check.refused(x, "write of " + n, () -> x.write(0, n), CarryUp.OUTSIDE);
        }
    }

    private static void whichBytesAreWritten() {
        for (int n = 1; n <= 8; n++) {
            // 'load 399' told in two parts, what stands above the n bytes is another number
            CarryUp x = new CarryUp();
            x.write(Check.bytes("load 399".substring(0, n)) | (n < 8 ? -1L << 8 * n : 0), n);
            if (n < 8) x.write(Check.bytes("load 399".substring(n)), 8 - n);
            Check.due("first " + n + " bytes", x.day(), 1);
            Check.due("load by " + n + " bytes", x.count(3), 399);
        }
        for (int i = 0; i < 8; i++) {
            // a byte of the upper half at each place, and all of the others blanks
            long blanks = Check.bytes("        ");
            for (int b : new int[] {128, 160, 255}) {
                CarryUp x = new CarryUp();
                x.write(blanks & ~(255L << 8 * i) | (long) b << 8 * i, 8);
                Check.due("place of byte " + b, x.fault(), i);
            }
        }
    }

    private static void twoHundredBytes() {
        String text = "load 399" + " ".repeat(184) + ";begin 7";
        CarryUp x = written(text);
        Check.due("200 bytes", x.count(1), 200);
        for (int n = 1; n <= 8; n++) {
            int more = n;
            Check.refused(x, n + " more than 200", () -> x.write(0, more), CarryUp.FULL);
        }
        Check.refused(x, "OUTSIDE ahead of FULL", () -> x.write(0, 9), CarryUp.OUTSIDE);
        Check.refused(x, "OUTSIDE ahead of FULL", () -> x.write(0, 0), CarryUp.OUTSIDE);
        Check.due("the last byte is read", x.day(), 2);
        Check.due("the first line is done", x.count(3), 399);
        Check.due("the last line is done", x.count(5), 7);
    }

    private static void fullAtEachLength() {
        for (int had = 192; had <= 200; had++) {
            for (int n = 1; n <= 8; n++) {
                String text = "load 8" + " ".repeat(had - 6);
                CarryUp x = written(text);
                int more = n;
                if (had + n > 200) {
                    Check.refused(x, had + " and " + n, () -> x.write(Check.bytes("zzzzzzzz"), more), CarryUp.FULL);
                } else {
                    Check.due(had + " and " + n, x.write(Check.bytes("        "), n), had + n);
                }
                Check.due("nothing else was written", x.day(), 1);
            }
        }
    }

    private static void eraseAndAgain() {
        CarryUp x = new CarryUp();
        Check.due("erase a new one", x.erase(), 0);
        for (int length : new int[] {1, 8, 199, 200}) {
            Check.write(x, "z".repeat(length));
            Check.due("erase " + length, x.erase(), length);
            Check.due("empty", x.count(1), 0);
            Check.due("fault of nothing", x.fault(), 0);
            Check.due("erase nothing", x.erase(), 0);
        }
        Check.write(x, "load 5;begin 6");
        x.erase();
        Check.due("what is erased is not done", x.day(), CarryUp.NOT);
        Check.due("load", x.count(3), 40);
        Check.due("begin", x.count(5), 480);
        Check.write(x, "begin 9");
        Check.due("nothing is left of it", x.day(), 1);
        Check.due("load", x.count(3), 40);
        Check.write(x, "load 5");
        x.erase();
        Check.write(x, "load ");
        Check.due("a number that was erased is not read", x.fault(), 5);
        x.erase();
        for (int i = 0; i < 2; i++) {
            Check.write(x, "load 39;5555555555");
            x.erase();
            Check.write(x, "load 39");
            Check.due("what stood behind it is not read", x.fault(), CarryUp.NONE);
            Check.due("nor done", x.day(), 1);
            Check.write(x, "load 3");
            Check.due("nor behind a day", x.day(), 1);
            Check.due("load", x.count(3), 3);
        }
    }

    // ---- LINES

    private static void anEmptyText() {
        fault("", 0);
        for (int blanks : new int[] {1, 7, 8, 199, 200}) fault(" ".repeat(blanks), blanks);
        fault(";", 0);
        fault("  ;", 2);
    }

    private static void oneToTenLines() {
        for (int lines = 1; lines <= 10; lines++) {
            String text = TEN.substring(0, 7 * lines - 1);
            CarryUp x = written(text);
            Check.due("fault of " + lines + " lines", x.fault(), CarryUp.NONE);
            Check.due("day of " + lines + " lines", x.day(), lines);
            Check.due("the last of " + lines + " lines", x.count(3), lines - 1);
            Check.due("empty then", x.count(1), 0);
            fault(text + ";", lines < 10 ? 7 * lines : 69);
            fault(text + "; ", lines < 10 ? 7 * lines + 1 : 69);
            fault(text + ";;", lines < 10 ? 7 * lines : 69);
            fault(";" + text, 0);
            fault(text + " load 1", 7 * lines);
        }
    }

    private static void behindTheTenth() {
        fault(TEN + ";load 10", 69);
        fault(TEN + "  ; load 10", 71);
        fault(TEN + "   ", CarryUp.NONE);
        fault(TEN + " zz", 70);
        fault(TEN.substring(0, 68) + "401;", 68);
        fault("load 401;" + TEN + ";", 5);
    }

    private static void aFaultInEachLine() {
        for (int line = 0; line < 10; line++) {
            int place = 7 * line + 5;
            fault(TEN.substring(0, place) + "x" + TEN.substring(place + 1), place);
            fault(TEN.substring(0, 7 * line) + "lord" + TEN.substring(7 * line + 4), 7 * line);
        }
    }

    private static void theFirstOfManyFaults() {
        fault("load 401;purse 1000;zz", 5);
        fault("load 400;purse 1000;zz", 15);
        fault("load 400;purse 999;zz", 19);
        fault("call 6 6 1440 1440 100 100 100", 5);
        fault("call 5 6 1440 1440 100 100 100", 7);
        fault("call 5 5 1440 1440 100 100 100", 9);
        fault("call 5 5 1439 1438 100 100 100", 14);
        fault("call 5 5 1439 1439 100 100 100", 19);
        fault("call 5 5 1439 1439 99 100 100", 22);
        fault("call 5 5 1439 1439 99 99 100", 25);
        fault("way 6 6 201", 4);
        fault("way 5 5 201", 6);
        fault("way 5 4 201", 8);
        fault("thing i 0 100 zz", 6);
        fault("thing h 0 100 zz", 8);
        fault("thing h 1 100 zz", 10);
        fault("thing h 1 99 zz", 13);
        fault("sort 6 0 201 aa or aa", 5);
        fault("sort 5 0 201 aa or aa", 7);
        fault("sort 5 1 201 aa or aa", 9);
        fault("sort 5 1 200 aa or aa", 13);
        fault("sort 5 1 200 a or aa", 18);
    }

    // ---- TOKENS of a LINE, one by one

    private static int[] placesOfTokens(String line) {
        String[] tokens = line.split(" ");
        int[] places = new int[tokens.length];
        for (int i = 1; i < tokens.length; i++) places[i] = places[i - 1] + tokens[i - 1].length() + 1;
        return places;
    }

    private static void whatEndsTooSoon() {
        for (String line : LINES) {
            fault(line, CarryUp.NONE);
            int[] places = placesOfTokens(line);
            for (int i = 1; i < places.length; i++) {
                boolean whole = line.startsWith("or ", places[i]);
                String cut = line.substring(0, places[i]);
                fault(cut.trim(), whole ? CarryUp.NONE : cut.length() - 1);
                fault(cut, whole ? CarryUp.NONE : cut.length());
                fault(cut + "  ", whole ? CarryUp.NONE : cut.length() + 2);
                if (!whole) fault(cut + ";load 1", cut.length());
            }
        }
    }

    private static void whatCannotStand() {
        for (String line : LINES) {
            int[] places = placesOfTokens(line);
            String[] tokens = line.split(" ");
            for (int i = 0; i < places.length; i++) {
                String behind = line.substring(places[i] + tokens[i].length());
                for (String other : new String[] {"zz", "x", "10000", ".", ";", "A", "\u0000", "\u007f", "\u00ff", "-"}) {
                    fault(line.substring(0, places[i]) + other + behind, other.equals(";") && tokens[i].equals("or") ? places[i] + 2 : places[i]);
                }
                boolean isNumber = Character.isDigit(tokens[i].charAt(0));
                fault(line.substring(0, places[i]) + (isNumber ? "none" : "1") + behind, places[i]);
            }
        }
    }

    private static void whatCannotStandBehind() {
        for (String line : LINES) {
            for (String other : new String[] {"zz", "5", ".", "or", "part", "load", "A", "\u0000", "\u00ff"}) {
                boolean canBeOr = line.startsWith("sort") && !line.contains(" or ") && other.equals("or");
                fault(line + " " + other, line.length() + (canBeOr ? 3 : 1));
            }
            fault(line + ";", line.length() + 1);
            fault(line + " ; ;", line.length() + 3);
        }
    }

    private static void blanks() {
        for (String line : LINES) {
            fault("   " + line.replace(" ", "    ") + "    ", CarryUp.NONE);
            fault(" " + line + " ; " + line + " ;  " + line + " ", CarryUp.NONE);
            fault(" " + line + " ; " + line + " ;  " + line + " ;", 3 * line.length() + 10);
        }
    }

    private static void noBlankIsNeeded() {
        String[] tight = {"thing a1 0part", "thing h99 99tool", "load400", "purse999", "begin1439", "way0 5 200",
            "call5 5 1439 1439 99 99 99", "sort0 20 200none", "sort5 1 0abcdefgh", "sort0 1 0none or h", "sort0 1 0ha or ah"};
        for (String line : tight) {
            fault(line, CarryUp.NONE);
            fault(line + ";" + line, CarryUp.NONE);
        }
        CarryUp x = written("thing b2 3tool;load4;purse5;begin6;way0 1 7;call2 3 4 5 6 7 8;sort2 9 1none or h");
        Check.due("all in one", x.day(), 7);
        Check.due("sort", x.sort(2, 0, 3), 128);
        Check.due("thing", x.thing(1, 0) * 100 + x.thing(1, 1) * 10 + x.thing(1, 2), 231);
    }

    private static void blanksThatAreNeeded() {
        fault("thinga 1 0 part", 0);
        fault("thing a 10 part", 11);
        fault("way 01 5", 8);
        fault("way 0 15", 6);
        fault("call 55 0 0 0 0 0", 5);
        fault("call 5 5 14391439 99 99 99", 9);
        fault("call 0 1 0 0 9999 99", 13);
        fault("sort 51 0 none", 5);
        fault("sort 0 1 0 noneor h", 11);
        fault("sort 0 1 0 none orh", 16);
        fault("sort 0 1 0 aor h", 11);
        fault("sort 0 1 0 a orh", 13);
        fault("sort 0 120 none", 7);
    }

    private static void whatIsNoBlank() {
        for (char c : new char[] {0, 9, 10, 11, 13, 31, 33, 160, 255}) {
            fault("load" + c + "5", 4);
            fault(c + "load 5", 0);
            fault("load 5" + c, 6);
            fault("load 5;" + c + "load 6", 7);
        }
    }

    private static void lettersAndDigits() {
        // the bytes next to a, z, 0 and 9, and letters that are not small: TOKENS of their own
        for (char c : new char[] {'`', '{', 'A', 'L', 'Z', '@', '[', '_', 228, 'a' + 128}) {
            fault("load" + c + " 5", 4);
            fault(c + "oad 5", 0);
            fault("lo" + c + "d 5", 0);
            fault("sort 0 1 0 a" + c, 12);
        }
        for (char c : new char[] {'/', ':', '.', ',', '-', 178, '0' + 128}) {
            fault("load 5" + c, 6);
            fault("load " + c + "5", 5);
            fault("load 1" + c + "5", 6);
        }
        fault("load 5a", 6);
        fault("load a5", 5);
        fault("l0ad 5", 0);
    }

    // ---- words

    private static void lettersOfThings() {
        for (char c = 'a'; c <= 'z'; c++) {
            int thing = c - 'a';
            if (thing > 7) {
                fault("thing " + c + " 5 6 tool", 6);
                continue;
            }
            CarryUp x = Check.told("thing " + c + " 5 6 tool");
            for (int t = 0; t < 8; t++) Check.due("weight of " + t, x.thing(t, 0), t == thing ? 5 : 1);
            for (int t = 0; t < 8; t++) Check.due("price of " + t, x.thing(t, 1), t == thing ? 6 : 0);
            for (int t = 0; t < 8; t++) Check.due("a tool: " + t, x.thing(t, 2), t == thing ? 1 : 0);
        }
        for (String word : new String[] {"A", "H", "`", "ab", "ha", "aa", "hh", "none", "1", "or"}) fault("thing " + word + " 5 6 tool", 6);
    }

    private static void wordsOfThings() {
        for (String word : new String[] {"a", "h", "ab", "ha", "hgfedcba", "abcdefgh", "gb"}) {
            int bits = 0;
            for (char c : word.toCharArray()) bits |= 1 << c - 'a';
            CarryUp x = Check.told("call 0 1 0 0 0 0 0;sort 0 1 0 " + word + " or h;sort 0 1 0 none or " + word);
            Check.due("all of " + word, x.sort(0, 0, 2), bits);
            Check.due("one of h", x.sort(0, 0, 3), 128);
            Check.due("all of none", x.sort(0, 1, 2), 0);
            Check.due("one of " + word, x.sort(0, 1, 3), bits);
        }
        String[] wrong = {"i", "z", "ai", "ia", "abcdefghi", "aa", "hh", "aba", "abb", "baa", "abcdefgha", "abcdefghh", "az", "za", "A", "`", "{"};
        for (String word : wrong) {
            fault("sort 0 1 0 " + word, 11);
            fault("sort 0 1 0 a or " + word, 16);
            fault("sort 0 1 0 none or " + word, 19);
        }
    }

    private static void theWordNone() {
        fault("sort 0 1 0 none", CarryUp.NONE);
        fault("sort 0 1 0 no", 11);
        fault("sort 0 1 0 non", 11);
        fault("sort 0 1 0 nonea", 11);
        fault("sort 0 1 0 none none", 16);
        fault("sort 0 1 0 none a", 16);
        fault("sort 0 1 0 none or none", 19);
        fault("sort 0 1 0 or h", 11);
        fault("sort 0 1 0 a or", 15);
        fault("sort 0 1 0 a or ;", 16);
        fault("sort 0 1 0 a or b or c", 18);
        fault("sort 0 1 0 a or b c", 18);
    }

    private static void linesAreReadAlone() {
        CarryUp x = written("sort 5 1 0 a");
        Check.due("a sort of a call that is not told is no fault", x.fault(), CarryUp.NONE);
        Check.due("it is a line", x.day(), 1);
        Check.due("and no call", x.count(0), 0);
        Check.write(x, "call 5 1 0 0 0 0 0;sort 5 1 0 a;sort 5 2 0 a;sort 5 3 0 a;sort 5 4 0 a;sort 5 5 0 a;sort 5 6 0 a");
        Check.due("a fifth sort is no fault", x.fault(), CarryUp.NONE);
        Check.due("all are lines", x.day(), 7);
        Check.due("four sorts", x.call(5, 6), 4);
    }

    private static void objectsAreApart() {
        CarryUp one = new CarryUp(), other = new CarryUp();
        String first = State.of(other);
        Check.tell(one, "load 1;begin 2;thing a 9 9 tool;way 0 1 3;call 0 1 0 0 0 0 0;sort 0 1 0 a");
        one.visit(0, 0, 0);
        Check.write(one, "zz");
        Check.yes("what one was told the other one does not know", State.of(other).equals(first));
        Check.yes("nor does a new one", State.of(new CarryUp()).equals(first));
    }
}
