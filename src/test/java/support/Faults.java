import java.util.ArrayList;
import java.util.List;
import java.util.regex.Matcher;
import java.util.regex.Pattern;

/** Where the FAULT of a text is, told a second time: by a table of what may stand at each place of a LINE. */
final class Faults {
    private record Token(int place, String is) {
    }

    private Faults() {
    }

    /** The place of the FAULT, or NONE. */
    static int of(String text) {
        List<Token> tokens = new ArrayList<>();
        Matcher m = Pattern.compile("[a-z]+|[0-9]+|[^ ]", Pattern.DOTALL).matcher(text);
        while (m.find()) tokens.add(new Token(m.start(), m.group()));
        tokens.add(new Token(text.length(), ""));
        int t = 0;
        for (int line = 1; line <= 10; line++) {
            List<String> slots = slots(tokens.get(t).is);
            for (String slot : slots) {
                String previous = t > 0 ? tokens.get(t - 1).is : "";
                if (slot.equals("or") && !tokens.get(t).is.equals("or")) break;
                if (!fits(slot, tokens.get(t).is, previous)) return tokens.get(t).place;
                t++;
            }
            if (tokens.get(t).is.isEmpty()) return CarryUp.NONE;
            if (!tokens.get(t).is.equals(";") || line == 10) return tokens.get(t).place;
            t++;
        }
        throw new IllegalStateException("behind the tenth line");
    }

    private static List<String> slots(String first) {
        switch (first) {
            case "thing": return List.of("thing", "letter", "1-99", "0-99", "kind");
            case "load": return List.of("load", "0-400");
            case "purse": return List.of("purse", "0-999");
            case "begin": return List.of("begin", "0-1439");
            case "way": return List.of("way", "0-5", "unlike", "0-200");
            case "call": return List.of("call", "0-5", "1-5", "0-1439", "later", "0-99", "0-99", "0-99");
            case "sort": return List.of("sort", "0-5", "1-20", "0-200", "all", "or", "one");
            default: return List.of("no line");
        }
    }

    private static boolean fits(String slot, String token, String previous) {
        switch (slot) {
            case "letter": return token.matches("[a-h]");
            case "kind": return token.equals("part") || token.equals("tool");
            case "unlike": return within(token, 0, 5) && Integer.parseInt(token) != Integer.parseInt(previous);
            case "later": return within(token, Integer.parseInt(previous), 1439);
            case "all": return token.equals("none") || isThings(token);
            case "one": return isThings(token);
            default: break;
        }
        if (!slot.matches("[0-9]+-[0-9]+")) return token.equals(slot);
        String[] bounds = slot.split("-");
        return within(token, Integer.parseInt(bounds[0]), Integer.parseInt(bounds[1]));
    }

    private static boolean within(String token, int least, int most) {
        return token.matches("[0-9]{1,4}") && Integer.parseInt(token) >= least && Integer.parseInt(token) <= most;
    }

    private static boolean isThings(String token) {
        return token.matches("[a-h]+") && token.chars().distinct().count() == token.length();
    }
}
