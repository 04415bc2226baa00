/** Texts put together of lines, each number a little beyond its bounds now and then. */
final class Texts {
    private Texts() {
    }

    static String of(Dice dice) {
        StringBuilder text = new StringBuilder();
        int lines = dice.of(1, 7);
        for (int i = 0; i < lines; i++) {
            if (i > 0) text.append(dice.below(3) == 0 ? " ;" : ";");
            if (text.length() < 170) text.append(line(dice));
            else text.append("load 3");
        }
        if (dice.below(12) == 0) text.setCharAt(dice.below(text.length()), (char) dice.below(256));
        return text.toString();
    }

    private static String line(Dice dice) {
        switch (dice.below(12)) {
            case 0: return "thing " + word(dice, 1) + " " + number(dice, 1, 30) + " " + number(dice, 0, 99) + (dice.below(2) == 0 ? "part" : " tool");
            case 1: return "load" + number(dice, 5, 90);
            case 2: return "purse " + number(dice, 0, 400);
            case 3: return "begin " + number(dice, 440, 500);
            case 4: return "way " + number(dice, 0, 5) + " " + number(dice, 0, 5) + " " + number(dice, 0, 40);
            case 5: case 6: case 7: return call(dice);
            default: return sort(dice);
        }
    }

    private static String call(Dice dice) {
        int opens = dice.of(460, 520);
        return "call " + number(dice, 0, 5) + " " + number(dice, 1, 5) + " " + opens + " " + (opens + dice.of(-1, 90)) + " " + number(dice, 0, 30)
            + " " + number(dice, 0, 20) + " " + number(dice, 0, 20);
    }

    private static String sort(Dice dice) {
        String all = dice.below(4) == 0 ? "none" : word(dice, 2);
        return "sort" + number(dice, 0, 5) + " " + number(dice, 1, 20) + " " + number(dice, 0, 60) + " " + all
            + (dice.below(3) == 0 ? " or " + word(dice, 3) : "");
    }

    private static String number(Dice dice, int least, int most) {
        int number = dice.below(90) == 0 ? dice.of(least - 2, most + 2) : dice.of(least, most);
        return dice.below(60) == 0 ? "00" + Math.abs(number) : "" + Math.abs(number);
    }

    private static String word(Dice dice, int most) {
        StringBuilder word = new StringBuilder();
        for (int i = dice.of(1, most); i > 0; i--) {
            char letter = (char) ('a' + dice.below(8));
            if (word.indexOf("" + letter) < 0 || dice.below(30) == 0) word.append(letter);
        }
        return word.toString();
    }
}
