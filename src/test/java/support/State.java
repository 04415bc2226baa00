/** All that can be asked of an object, as one text: two such texts are alike if nothing has changed between them. */
final class State {
    private State() {
    }

    static String of(CarryUp x) {
        StringBuilder s = new StringBuilder();
        for (int what = 0; what < 6; what++) add(s, x.count(what));
        for (int i = 0; i < 8 * 3; i++) add(s, x.thing(i / 3, i % 3));
        for (int i = 0; i < 6 * 6; i++) add(s, x.way(i / 6, i % 6));
        for (int i = 0; i < 6 * 7; i++) add(s, x.call(i / 7, i % 7));
        for (int i = 0; i < 6 * 4 * 4; i++) add(s, x.sort(i / 16, i / 4 % 4, i % 4));
        for (int set = 0; set < 256; set++) add(s, x.saved(set));
        for (int k = 1; k <= 3; k++) add(s, x.most(k));
        add(s, x.box(0));
        add(s, x.box(1));
        add(s, x.fault());
        return s.toString();
    }

    private static void add(StringBuilder s, int answer) {
        s.append(answer).append(' ');
    }
}
