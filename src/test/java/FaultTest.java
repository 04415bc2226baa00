/** Promises 2 to 5: texts put together of TOKENS that may or may not stand, their FAULT found by a table of what may stand (support/Faults.java). */
public final class FaultTest {
    private static final int TEXTS = 60000;

    public static void main(String[] args) {
        Dice dice = new Dice(4711);
        int faultless = 0;
        CarryUp x = new CarryUp();
        for (int i = 0; i < TEXTS; i++) {
            String text = spoilt(dice, text(dice));
            if (text.length() > 200) text = text.substring(0, 200);
            int want = Faults.of(text);
            if (want < 0) faultless++;
            Check.fault(x, text, want);
            if (i % 16 != 0) continue;
            Check.write(x, text);
            Check.due("day of '" + text + "'", x.day(), want < 0 ? text.split(";").length : CarryUp.NOT);
            Check.due("bytes behind it", x.erase(), want < 0 ? 0 : text.length());
        }
        Check.due("some of the texts have no fault", faultless > TEXTS / 10 ? 1 : 0, 1);
        Check.due("and some have", faultless < TEXTS / 2 ? 1 : 0, 1);
        Check.end();
    }

    // ---- texts

    private static String text(Dice dice) {
        StringBuilder text = new StringBuilder();
        int lines = dice.below(8) == 0 ? dice.of(9, 12) : dice.of(1, 3);
        for (int i = 0; i < lines; i++) {
            if (i > 0) text.append(dice.below(2) == 0 ? ";" : " ; ");
            text.append(line(dice, lines > 8));
        }
        return text.toString();
    }

    private static String line(Dice dice, boolean small) {
        String gap = dice.below(6) == 0 ? "  " : " ";
        switch (small ? dice.of(1, 3) : dice.below(7)) {
            case 0: return "thing" + gap + letter(dice) + gap + dice.of(0, 100) + gap + dice.of(0, 100) + (dice.below(2) == 0 ? gap : "") + (dice.below(2) == 0 ? "part" : "tool");
            case 1: return "load" + gap + dice.of(0, 420);
            case 2: return "purse" + gap + dice.of(0, 1010);
            case 3: return "begin" + gap + dice.of(0, 1450);
            case 4: return "way" + gap + dice.below(6) + gap + dice.below(7) + gap + dice.of(0, 205);
            case 5: {
                int opens = dice.below(1300);
                return "call" + gap + dice.below(6) + gap + dice.of(0, 5) + gap + opens + gap + (opens + dice.of(-5, 150)) + gap + dice.of(0, 101) + gap + dice.of(0, 101) + gap + dice.of(0, 101);
            }
            default: return "sort" + gap + dice.below(6) + gap + dice.of(0, 21) + gap + dice.of(0, 203) + gap + word(dice) + (dice.below(2) == 0 ? gap + "or" + gap + word(dice) : "");
        }
    }

    private static char letter(Dice dice) {
        return (char) ('a' + dice.below(dice.below(9) == 0 ? 10 : 8));
    }

    private static String word(Dice dice) {
        if (dice.below(5) == 0) return "none";
        StringBuilder word = new StringBuilder();
        for (int i = dice.of(1, 4); i > 0; i--) {
            char letter = letter(dice);
            if (word.indexOf("" + letter) < 0 || dice.below(20) == 0) word.append(letter);
        }
        return word.toString();
    }

    /** Now and then a byte more, one less, another one, or the end ahead of time. */
    private static String spoilt(Dice dice, String text) {
        String bytes = " ;a0zeno19`{/:AZ_\t\n\u0000\u007f\u0080\u00e1\u00ff";
        StringBuilder spoilt = new StringBuilder(text);
        for (int i = dice.below(3); i > 0 && spoilt.length() > 0; i--) {
            int at = dice.below(spoilt.length());
            char b = bytes.charAt(dice.below(bytes.length()));
            switch (dice.below(6)) {
                case 0: spoilt.insert(at, b); break;
                case 1: spoilt.deleteCharAt(at); break;
                case 2: spoilt.setCharAt(at, b); break;
                case 3: spoilt.setLength(at); break;
                case 4: spoilt.insert(at, "0"); break;
                default: break;
            }
        }
        return spoilt.toString();
    }
}
