/** What to carry up: see README.md; the numbered promises are those of the document ../shared/DOC.md. */
public final class CarryUp {
    public static final int NONE = -1, UNKNOWN = -2, OUTSIDE = -3, NOT = -4, FULL = -5;
    public static final long LEAST = -9000000000000000000L;

    /** What a check answers when nothing is to be refused: no refusal is 0. */
    private static final int FINE = 0;

    private static final int THINGS = 8, BAGS = 256, PLACES = 6, CALLS = 6, SORTS = 4;
    private static final int STOPS = 6, HOME = 6, LEFT_AT_MOST = 4, LAST_MINUTE = 1439;
    private static final int VISITS = 16, SEEDS = 65536;

    /** How the kinds of LINES are numbered between Reader and Plan. */
    private static final int THING = 1, LOAD = 2, PURSE = 3, BEGIN = 4, WAY = 5, CALL = 6, SORT = 7;

    private final Text text;
    private final Reader reader;
    private final Plan plan;
    private final Row rows;
    private final Walk walk;
    private final Choice choice;
    private final Now now;
    private final Book book;

    public CarryUp() {
        text = new Text();
        reader = new Reader(text);
        plan = new Plan();
        rows = new Row(plan);
        walk = new Walk(plan, rows);
        choice = new Choice(plan, rows, walk);
        now = new Now(plan);
        book = new Book(plan);
    }

    // ---- the day

    public int write(long bytes, int n) {
        return text.add(bytes, n);
    }

    public int erase() {
        int had = text.length();
        text.clear();
        return had;
    }

    public int fault() {
        return reader.read();
    }

    public int day() {
        if (reader.read() != NONE) return NOT;
        int lines = reader.lines();
        for (int i = 0; i < lines; i++) plan.tell(reader, i);
        text.clear();
        return lines;
    }

    public int thing(int thing, int what) {
        if (!within(thing, 0, THINGS - 1)) return UNKNOWN;
        switch (what) {
            case 0: return plan.weight(thing);
            case 1: return plan.price(thing);
            case 2: return plan.tools() >> thing & 1;
            default: return OUTSIDE;
        }
    }

    public int call(int call, int what) {
        Call told = plan.callTold(call);
        if (told == null) return UNKNOWN;
        switch (what) {
            case 0: return told.place;
            case 1: return told.opens;
            case 2: return told.shuts;
            case 3: return told.worth;
            case 4: return told.again;
            case 5: return told.look;
            case 6: return told.sorts();
            default: return OUTSIDE;
        }
    }

    public int sort(int call, int sort, int what) {
        Sort told = plan.sortTold(call, sort);
        if (told == null) return UNKNOWN;
        switch (what) {
            case 0: return told.likely;
            case 1: return told.minutes;
            case 2: return told.all;
            case 3: return told.one;
            default: return OUTSIDE;
        }
    }

    public int way(int a, int b) {
        if (!within(a, 0, PLACES - 1) || !within(b, 0, PLACES - 1)) return UNKNOWN;
        return plan.wayBetween(a, b);
    }

    public int may(int bag) {
        if (!isBag(bag)) return OUTSIDE;
        return plan.mayBe(bag) ? 1 : 0;
    }

    // ---- bags and rows

    public int does(int bag, int call, int sort) {
        Sort told = plan.sortTold(call, sort);
        if (told == null) return UNKNOWN;
        if (!isBag(bag)) return OUTSIDE;
        return told.left(bag, plan.tools());
    }

    public int chance(int bag, int call, int part) {
        Call told = plan.callWithSorts(call);
        if (told == null) return UNKNOWN;
        if (!isBag(bag) || !isPart(part)) return OUTSIDE;
        return (int) lowest(told.likelyDone(bag), told.likely(), part);
    }

    public long mean(int bag, int row, int n, int part) {
        int refused = refusal(row, n, isBag(bag) && isPart(part));
        if (refused != FINE) return LEAST - refused;
        walk.take(bag);
        return lowest(walk.sum(), walk.scale(), part);
    }

    public long all(int bag, int row, int n, int part) {
        int refused = refusal(row, n, isBag(bag) && isPart(part));
        if (refused != FINE) return refused;
        walk.take(bag);
        return lowest(walk.allDone(), walk.scale(), part);
    }

    public int end(int bag, int row, int n) {
        int refused = refusal(row, n, isBag(bag));
        if (refused != FINE) return refused;
        walk.take(bag);
        return walk.latest();
    }

    public int best(int row, int n) {
        int refused = refusal(row, n, true);
        if (refused != FINE) return refused;
        choice.findBest();
        return choice.bag();
    }

    public int sure(int row, int n, int a, int b) {
        int refused = refusal(row, n, within(b, 1, 99) && within(a, 0, b));
        if (refused != FINE) return refused;
        return choice.findSure(a, b);
    }

    public long know(int row, int n, int call, int part) {
        int refused = rows.tell(row, n);
        if (refused != FINE) return LEAST - refused;
        if (!within(call, 0, CALLS - 1) || !rows.has(call)) return LEAST - UNKNOWN;
        if (rows.hasTwice() || !isPart(part)) return LEAST - OUTSIDE;
        long gain = choice.gainByKnowing(call);
        return lowest(gain, choice.scale(), part);
    }

    public int both(int n, int what) {
        if (!within(n, 1, 3) || !within(what, 0, 1)) return OUTSIDE;
        if (!choice.findBoth(n)) return NONE;
        return what == 0 ? choice.row() : choice.bag();
    }

    public long value(int place, int minute, int bag, int set, int part) {
        int refused = refusalNow(place, set, within(minute, 0, LAST_MINUTE) && isBag(bag) && isPart(part));
        if (refused != FINE) return LEAST - refused;
        now.find(place, minute, bag, set);
        return lowest(now.worth(), now.scale(), part);
    }

    public int next(int place, int minute, int bag, int set) {
        int refused = refusalNow(place, set, within(minute, 0, LAST_MINUTE) && isBag(bag));
        if (refused != FINE) return refused;
        now.find(place, minute, bag, set);
        return now.first();
    }

    // ---- things and the book

    public int stands(int thing, int other) {
        if (!within(thing, 0, THINGS - 1) || !within(other, 0, THINGS - 1) || thing == other) return UNKNOWN;
        return plan.standsIn(thing, other) ? 1 : 0;
    }

    public int idle() {
        return BAGS - 1 & ~plan.wanted();
    }

    public int visit(int call, int sort, int bag) {
        Sort found = plan.sortTold(call, sort);
        if (found == null) return UNKNOWN;
        if (!isBag(bag)) return OUTSIDE;
        return book.add(found, bag);
    }

    public int saved(int set) {
        return isBag(set) ? book.savedBy(set) : OUTSIDE;
    }

    public int most(int k) {
        return within(k, 1, 3) ? book.mostSaving(k) : OUTSIDE;
    }

    public int box(int what) {
        if (!within(what, 0, 1)) return OUTSIDE;
        int box = book.bestBox();
        return what == 0 ? box : book.doneBy(box);
    }

    public int run(int seed, int bag, int row, int n, int what) {
        int refused = refusal(row, n, isBag(bag) && within(seed, 0, SEEDS - 1) && within(what, 0, 3));
        if (refused != FINE) return refused;
        walk.draw(seed, bag);
        switch (what) {
            case 0: return (int) walk.sum() + 1000;
            case 1: return walk.latest();
            case 2: return walk.doneBits();
            default: return walk.bagLeft();
        }
    }

    public int count(int what) {
        switch (what) {
            case 0: return plan.callsTold();
            case 1: return text.length();
            case 2: return book.visits();
            case 3: return plan.load();
            case 4: return plan.purse();
            case 5: return plan.begin();
            default: return OUTSIDE;
        }
    }

    // ---- what is refused

    /** FINE, or what is to be answered: n ahead of the CALLS, these ahead of all the rest. */
    private int refusal(int row, int n, boolean restFits) {
        int refused = rows.tell(row, n);
        if (refused != FINE) return refused;
        return rows.hasTwice() || !restFits ? OUTSIDE : FINE;
    }

    private int refusalNow(int place, int set, boolean restFits) {
        if (!within(place, 0, PLACES - 1)) return UNKNOWN;
        if (!within(set, 0, (1 << CALLS) - 1)) return OUTSIDE;
        for (int c = 0; c < CALLS; c++) {
            if ((set >> c & 1) == 1 && plan.callWithSorts(c) == null) return UNKNOWN;
        }
        return Integer.bitCount(set) > LEFT_AT_MOST || !restFits ? OUTSIDE : FINE;
    }

    private static boolean within(int number, int least, int most) {
        return number >= least && number <= most;
    }

    private static boolean isBag(int bag) {
        return within(bag, 0, BAGS - 1);
    }

    private static boolean isPart(int part) {
        return within(part, 0, 1);
    }

    // ---- numbers and arrays

    /** One part of above / below in lowest terms; below is more than 0 wherever this is called. */
    private static long lowest(long above, long below, int part) {
        long a = Math.abs(above), b = Math.abs(below);
        // Euclid's steps for numbers below 2 to the 63 are fewer than 100
        for (int i = 0; i < 100 && b != 0; i++) {
            long rest = a % b;
            a = b;
            b = rest;
        }
        if (a == 0) return 0;
        return part == 0 ? above / a : below / a;
    }

    /** All reading of arrays by numbers that come from elsewhere goes through here, so that none is read outside. */
    private static int at(int[] from, int i) {
        return from != null && i >= 0 && i < from.length ? from[i] : 0;
    }

    private static void put(int[] into, int i, int number) {
        if (into != null && i >= 0 && i < into.length) into[i] = number;
    }

    /** THE TEXT: a row of bytes. */
    private static final class Text {
        static final int OTHER = 0, LETTER = 1, DIGIT = 2, BLANK = 3;

        private static final int MOST_BYTES = 200, MOST_AT_ONCE = 8, MOST_DIGITS = 4;

        private final int[] bytes = new int[MOST_BYTES];
        private int length;

        int length() {
            return length;
        }

        void clear() {
            length = 0;
        }

        int add(long more, int n) {
            if (!within(n, 1, MOST_AT_ONCE)) return OUTSIDE;
            if (length + n > MOST_BYTES) return FULL;
            for (int i = 0; i < n; i++) put(bytes, length + i, (int) (more >> 8 * i & 255));
            length += n;
            return length;
        }

        /** What stands at i, with no calls of its own: the calls that read a LINE are many deep already. */
        int kindAt(int i) {
            if (i < 0 || i >= length || i >= bytes.length) return OTHER;
            int b = bytes[i];
            if (b >= 'a' && b <= 'z') return LETTER;
            if (b >= '0' && b <= '9') return DIGIT;
            return b == ' ' ? BLANK : OTHER;
        }

        boolean isAt(int from, int to, String word) {
            if (to - from != word.length()) return false;
            for (int i = 0; i < word.length(); i++) {
                if (at(bytes, from + i) != word.charAt(i)) return false;
            }
            return true;
        }

        /** The THINGS of a word of unlike THINGS' letters, by bits; 0 if it is not such a word. */
        int things(int from, int to) {
            int bits = 0;
            for (int i = from; i < to; i++) {
                int thing = at(bytes, i) - 'a';
                if (!within(thing, 0, THINGS - 1) || (bits >> thing & 1) == 1) return 0;
                bits |= 1 << thing;
            }
            return bits;
        }

        /** The number told from one place to another, or NONE if it is none of 1 to 4 digits. */
        int number(int from, int to) {
            if (kindAt(from) != DIGIT || to - from > MOST_DIGITS) return NONE;
            int number = 0;
            for (int i = from; i < to; i++) number = number * 10 + at(bytes, i) - '0';
            return number;
        }
    }

    /**
     * Reads THE TEXT to its first FAULT. Behind a FAULT nothing is read and the TOKEN at hand stays
     * the one that could not stand there, so that no reader below needs to look whether one ahead failed.
     */
    private static final class Reader {
        private static final int MOST_LINES = 10, LINE_SIZE = 8;

        private final Text text;
        private final int[] told = new int[MOST_LINES * LINE_SIZE];
        private int lines;
        private int noted;
        private int from;
        private int to;
        private boolean faulty;

        Reader(Text text) {
            this.text = text;
        }

        int lines() {
            return lines;
        }

        /** Number k of a LINE that was read: its kind (k 0), then what it tells. */
        int told(int line, int k) {
            return within(k, 0, LINE_SIZE - 1) ? at(told, line * LINE_SIZE + k) : 0;
        }

        /** The place of the FAULT, or NONE. */
        int read() {
            lines = 0;
            faulty = false;
            to = 0;
            step();
            for (int i = 0; i < MOST_LINES && !faulty && (i == 0 || takes(";")); i++) {
                noted = i * LINE_SIZE;
                readLine();
                lines = i + 1;
            }
            return faulty || from < text.length() ? from : NONE;
        }

        private void readLine() {
            if (takes("thing")) readThing();
            else if (takes("load")) readOne(LOAD, 400);
            else if (takes("purse")) readOne(PURSE, 999);
            else if (takes("begin")) readOne(BEGIN, LAST_MINUTE);
            else if (takes("way")) readWay();
            else if (takes("call")) readCall();
            else if (takes("sort")) readSort();
            else faulty = true;
        }

        private void readThing() {
            note(THING);
            note(letter());
            note(number(1, 99));
            note(number(0, 99));
            boolean part = takes("part");
            boolean tool = !part && takes("tool");
            if (!part && !tool) faulty = true;
            note(tool ? 1 : 0);
        }

        private void readOne(int kind, int most) {
            note(kind);
            note(number(0, most));
        }

        private void readWay() {
            note(WAY);
            int a = number(0, PLACES - 1);
            note(a);
            if (text.number(from, to) == a) faulty = true;
            note(number(0, PLACES - 1));
            note(number(0, 200));
        }

        private void readCall() {
            note(CALL);
            note(number(0, CALLS - 1));
            note(number(1, PLACES - 1));
            int opens = number(0, LAST_MINUTE);
            note(opens);
            note(number(opens, LAST_MINUTE));
            note(number(0, 99));
            note(number(0, 99));
            note(number(0, 99));
        }

        private void readSort() {
            note(SORT);
            note(number(0, CALLS - 1));
            note(number(1, 20));
            note(number(0, 200));
            note(takes("none") ? 0 : things());
            note(takes("or") ? things() : 0);
        }

        private void note(int number) {
            put(told, noted, number);
            noted++;
        }

        /** To the next TOKEN: a row of letters, a row of digits, or one byte alone; none at the end. */
        private void step() {
            int length = text.length();
            from = to;
            while (from < length && text.kindAt(from) == Text.BLANK) from++;
            to = Math.min(from + 1, length);
            int kind = text.kindAt(from);
            if (kind == Text.OTHER) return;
            while (to < length && text.kindAt(to) == kind) to++;
        }

        private boolean takes(String token) {
            if (faulty || !text.isAt(from, to, token)) return false;
            step();
            return true;
        }

        private int number(int least, int most) {
            int number = text.number(from, to);
            if (!within(number, least, most)) faulty = true;
            if (faulty) return 0;
            step();
            return number;
        }

        /** A word of unlike THINGS' letters, by bits. */
        private int things() {
            int bits = text.things(from, to);
            if (bits == 0) faulty = true;
            if (faulty) return 0;
            step();
            return bits;
        }

        /** A THING's letter. */
        private int letter() {
            int bits = text.things(from, to);
            for (int t = 0; t < THINGS && !faulty; t++) {
                if (bits == 1 << t) {
                    step();
                    return t;
                }
            }
            faulty = true;
            return 0;
        }
    }

    /** A SORT of a CALL. Made once and told anew, as are CALLS: what a run makes is counted. */
    private static final class Sort {
        private int likely;
        private int minutes;
        private int all;
        private int one;

        void tell(int likely, int minutes, int all, int one) {
            this.likely = likely;
            this.minutes = minutes;
            this.all = all;
            this.one = one;
        }

        /** Also for what the BOOK wrote down, which is no SORT any more. */
        static boolean isDone(int bag, int all, int one) {
            return (all & ~bag) == 0 && (one == 0 || (one & bag) != 0);
        }

        /** What is left in a BAG that DOES, or NONE. */
        int left(int bag, int tools) {
            if (!isDone(bag, all, one)) return NONE;
            int least = one & bag & -(one & bag);
            return bag & ~((all | least) & ~tools);
        }

        int wanted() {
            return all | one;
        }
    }

    private static final class Call {
        private final Sort[] sorts = new Sort[SORTS];
        private int sortCount;
        private int likely;
        private boolean told;
        private int place;
        private int opens;
        private int shuts;
        private int worth;
        private int again;
        private int look;

        Call() {
            for (int i = 0; i < sorts.length; i++) sorts[i] = new Sort();
        }

        /** As LINE i tells it: without SORTS then. */
        void tell(Reader reader, int i) {
            told = true;
            sortCount = 0;
            likely = 0;
            place = reader.told(i, 2);
            opens = reader.told(i, 3);
            shuts = reader.told(i, 4);
            worth = reader.told(i, 5);
            again = reader.told(i, 6);
            look = reader.told(i, 7);
        }

        void tellSort(Reader reader, int i) {
            if (!told || !within(sortCount, 0, sorts.length - 1)) return;
            Sort sort = sorts[sortCount];
            if (sort == null) return;
            sort.tell(reader.told(i, 2), reader.told(i, 3), reader.told(i, 4), reader.told(i, 5));
            likely += sort.likely;
            sortCount++;
        }

        boolean isTold() {
            return told;
        }

        int sorts() {
            return sortCount;
        }

        /** LIKELY of all its SORTS. */
        int likely() {
            return likely;
        }

        Sort sortTold(int i) {
            return i >= 0 && i < sortCount && i < sorts.length ? sorts[i] : null;
        }

        int likelyDone(int bag) {
            int done = 0;
            for (int i = 0; i < sortCount; i++) {
                Sort sort = sortTold(i);
                if (sort != null && Sort.isDone(bag, sort.all, sort.one)) done += sort.likely;
            }
            return done;
        }

        int wanted() {
            int wanted = 0;
            for (int i = 0; i < sortCount; i++) {
                Sort sort = sortTold(i);
                if (sort != null) wanted |= sort.wanted();
            }
            return wanted;
        }

        boolean lateAt(int minute) {
            return minute > shuts;
        }

        int startedAt(int minute) {
            return Math.max(minute, opens);
        }

        /** The SORT that a drawn number tells, by LIKELY from SORT 0 on. */
        Sort drawn(int number) {
            if (likely <= 0) return null;
            int rest = number % likely;
            for (int i = 0; i < sortCount; i++) {
                Sort sort = sortTold(i);
                if (sort == null) return null;
                rest -= sort.likely;
                if (rest < 0) return sort;
            }
            return null;
        }
    }

    /** What the texts have told: THINGS, WAYS and CALLS. */
    private static final class Plan {
        private final int[] weights = new int[THINGS];
        private final int[] prices = new int[THINGS];
        private final int[] ways = new int[PLACES * PLACES];
        private final Call[] calls = new Call[CALLS];
        private int tools = 0;
        private int load = 40;
        private int purse = 999;
        private int begin = 480;

        Plan() {
            for (int i = 0; i < weights.length; i++) weights[i] = 1;
            for (int i = 0; i < ways.length; i++) ways[i] = i / PLACES == i % PLACES ? 0 : 10;
            for (int i = 0; i < calls.length; i++) calls[i] = new Call();
        }

        int weight(int thing) {
            return at(weights, thing);
        }

        int price(int thing) {
            return at(prices, thing);
        }

        /** By bits. */
        int tools() {
            return tools;
        }

        int load() {
            return load;
        }

        int purse() {
            return purse;
        }

        int begin() {
            return begin;
        }

        int wayBetween(int a, int b) {
            return at(ways, a * PLACES + b);
        }

        /** Does LINE i. */
        void tell(Reader reader, int i) {
            int first = reader.told(i, 1);
            switch (reader.told(i, 0)) {
                case THING: tellThing(first, reader.told(i, 2), reader.told(i, 3), reader.told(i, 4)); break;
                case LOAD: load = first; break;
                case PURSE: purse = first; break;
                case BEGIN: begin = first; break;
                case WAY: tellWay(first, reader.told(i, 2), reader.told(i, 3)); break;
                case CALL: tellCall(first, reader, i); break;
                case SORT: tellSort(first, reader, i); break;
                default: break;
            }
        }

        private void tellThing(int thing, int weight, int price, int tool) {
            put(weights, thing, weight);
            put(prices, thing, price);
            tools = tools & ~(1 << thing) | tool << thing;
        }

        private void tellWay(int a, int b, int minutes) {
            put(ways, a * PLACES + b, minutes);
            put(ways, b * PLACES + a, minutes);
        }

        private void tellCall(int c, Reader reader, int i) {
            Call call = callAt(c);
            if (call != null) call.tell(reader, i);
        }

        private void tellSort(int c, Reader reader, int i) {
            Call call = callAt(c);
            if (call != null) call.tellSort(reader, i);
        }

        private Call callAt(int c) {
            return c >= 0 && c < calls.length ? calls[c] : null;
        }

        /** The CALL if it is told, or null. */
        Call callTold(int c) {
            Call call = callAt(c);
            return call != null && call.isTold() ? call : null;
        }

        /** The CALL if it is told and has a SORT, or null. */
        Call callWithSorts(int c) {
            Call call = callTold(c);
            return call != null && call.sorts() > 0 ? call : null;
        }

        Sort sortTold(int c, int s) {
            Call call = callTold(c);
            return call == null ? null : call.sortTold(s);
        }

        int callsTold() {
            int told = 0;
            for (int c = 0; c < CALLS; c++) {
                if (callTold(c) != null) told++;
            }
            return told;
        }

        int weightOf(int bag) {
            int sum = 0;
            for (int i = 0; i < THINGS; i++) sum += (bag >> i & 1) * at(weights, i);
            return sum;
        }

        boolean mayBe(int bag) {
            int price = 0;
            for (int i = 0; i < THINGS; i++) price += (bag >> i & 1) * at(prices, i);
            return price <= purse && weightOf(bag) <= load;
        }

        /** The THINGS that some SORT wants, by bits. */
        int wanted() {
            int wanted = 0;
            for (int c = 0; c < CALLS; c++) {
                Call call = callTold(c);
                if (call != null) wanted |= call.wanted();
            }
            return wanted;
        }

        boolean standsIn(int thing, int other) {
            for (int i = 0; i < CALLS * SORTS; i++) {
                Sort sort = sortTold(i / SORTS, i % SORTS);
                if (sort == null) continue;
                if ((sort.all >> other & 1) == 1) return false;
                if ((sort.one >> other & 1) == 1 && (sort.one >> thing & 1) == 0) return false;
            }
            return true;
        }
    }

    /** The ROW that was told last. */
    private static final class Row {
        private final Plan plan;
        private final int[] stops = new int[STOPS];
        private final int[] ways = new int[STOPS];
        private final Call[] calls = new Call[STOPS];
        private int length;
        private int knownCall = NONE;
        private int knownSort = NONE;

        Row(Plan plan) {
            this.plan = plan;
        }

        /** FINE, OUTSIDE for n, or UNKNOWN for a CALL; a CALL that is in it twice is not looked for here. */
        int tell(int row, int n) {
            length = 0;
            forget();
            if (n < 1 || n > calls.length) return OUTSIDE;
            int place = 0;
            for (int i = 0; i < n; i++) {
                int stop = row >> 4 * i & 15;
                Call call = plan.callWithSorts(stop);
                if (call == null && stop != HOME) return UNKNOWN;
                int there = call == null ? 0 : call.place;
                calls[i] = call;
                put(stops, i, stop);
                put(ways, i, plan.wayBetween(place, there));
                place = there;
            }
            length = n;
            return FINE;
        }

        boolean hasTwice() {
            int seen = 0;
            for (int i = 0; i < length; i++) {
                int stop = at(stops, i);
                if (stop != HOME && (seen >> stop & 1) == 1) return true;
                seen |= 1 << stop;
            }
            return false;
        }

        boolean has(int call) {
            for (int i = 0; i < length; i++) {
                if (at(stops, i) == call) return true;
            }
            return false;
        }

        int length() {
            return length;
        }

        int stopAt(int i) {
            return at(stops, i);
        }

        /** The minutes to stop i from the one ahead of it. */
        int wayTo(int i) {
            return at(ways, i);
        }

        /** The CALL at stop i, or null at HOME. */
        Call callAt(int i) {
            return i >= 0 && i < calls.length ? calls[i] : null;
        }

        /** From now on a CALL is known to be of one SORT. */
        void assume(int call, int sort) {
            knownCall = call;
            knownSort = sort;
        }

        void forget() {
            assume(NONE, NONE);
        }

        /** How many of likelyAt(i) ways a SORT has, as far as is known. */
        int likelyOf(int i, int sort) {
            if (at(stops, i) == knownCall) return sort == knownSort ? 1 : 0;
            Call call = callAt(i);
            Sort told = call == null ? null : call.sortTold(sort);
            return told == null ? 0 : told.likely;
        }

        /** What below the CHANCES at stop i stands, as far as is known. */
        int likelyAt(int i) {
            Call call = callAt(i);
            return call == null || at(stops, i) == knownCall ? 1 : call.likely();
        }

        /** The THINGS that some SORT in it wants, by bits. */
        int wanted() {
            int wanted = 0;
            for (int i = 0; i < length; i++) {
                Call call = callAt(i);
                if (call != null) wanted |= call.wanted();
            }
            return wanted;
        }
    }

    /** The ROW is gone with a BAG: as all may be, or as one SEED draws it. */
    private static final class Walk {
        private final Plan plan;
        private final Row row;
        private int full;
        private long sum;
        private long allDone;
        private long scale;
        private int latest;
        private int doneBits;
        private int bagLeft;

        Walk(Plan plan, Row row) {
            this.plan = plan;
            this.row = row;
        }

        /** What all that may be brings, each by its CHANCE times scale(). */
        long sum() {
            return sum;
        }

        /** The CHANCE that all is done, times scale(). */
        long allDone() {
            return allDone;
        }

        long scale() {
            return scale;
        }

        int latest() {
            return latest;
        }

        int doneBits() {
            return doneBits;
        }

        int bagLeft() {
            return bagLeft;
        }

        /** All that may be with a BAG. */
        void take(int bag) {
            full = bag;
            sum = 0;
            allDone = 0;
            latest = 0;
            scale = 1;
            for (int i = 0; i < row.length(); i++) scale *= row.likelyAt(i);
            goOn(this, 0, plan.begin(), bag, 1, 0, false);
        }

        /**
         * From stop i on. odds: the CHANCE of what lies behind, times all likelyAt behind; so at the
         * end of each way through the ROW it is over scale, and no fraction is needed.
         */
        private static void goOn(Walk w, int i, int minute, int bag, long odds, int gain, boolean missed) {
            if (i >= w.row.length()) {
                w.finish(minute, odds, gain, missed);
                return;
            }
            int there = minute + w.row.wayTo(i);
            Call call = w.row.callAt(i);
            if (call == null) {
                goOn(w, i + 1, there, w.full, odds, gain, missed);
                return;
            }
            if (call.lateAt(there)) {
                goOn(w, i + 1, there, bag, odds * w.row.likelyAt(i), gain - call.again, true);
                return;
            }
            int start = call.startedAt(there);
            int failing = 0;
            for (int s = 0; s < call.sorts(); s++) {
                Sort sort = call.sortTold(s);
                int likely = w.row.likelyOf(i, s);
                if (sort == null || likely == 0) continue;
                int left = sort.left(bag, w.plan.tools());
                if (left == NONE) failing += likely;
                else goOn(w, i + 1, start + sort.minutes, left, odds * likely, gain + call.worth, missed);
            }
            // all SORTS it does not do go on alike
            if (failing > 0) goOn(w, i + 1, start + call.look, bag, odds * failing, gain - call.again, true);
        }

        private void finish(int minute, long odds, int gain, boolean missed) {
            sum += odds * gain;
            if (!missed) allDone += odds;
            latest = Math.max(latest, minute);
        }

        /** A DAY by SEED. */
        void draw(int seed, int bag) {
            int number = seed;
            sum = 0;
            doneBits = 0;
            bagLeft = bag;
            latest = plan.begin();
            for (int i = 0; i < row.length(); i++) {
                latest += row.wayTo(i);
                Call call = row.callAt(i);
                if (call == null) {
                    bagLeft = bag;
                } else if (call.lateAt(latest)) {
                    sum -= call.again;
                } else {
                    number = (number * 25173 + 13849) % SEEDS;
                    latest = call.startedAt(latest);
                    meet(row.stopAt(i), call, call.drawn(number / 64));
                }
            }
        }

        private void meet(int stop, Call call, Sort sort) {
            int left = sort == null ? NONE : sort.left(bagLeft, plan.tools());
            if (left == NONE) {
                sum -= call.again;
                latest += call.look;
            } else {
                sum += call.worth;
                latest += sort == null ? 0 : sort.minutes;
                bagLeft = left;
                doneBits |= 1 << stop;
            }
        }
    }

    /** Looks among BAGS, or ROWS and BAGS, for the one to take. */
    private static final class Choice {
        private final Plan plan;
        private final Row rows;
        private final Walk walk;
        private int bag;
        private int row;
        private long sum;
        private long scale;

        Choice(Plan plan, Row rows, Walk walk) {
            this.plan = plan;
            this.rows = rows;
            this.walk = walk;
        }

        int bag() {
            return bag;
        }

        int row() {
            return row;
        }

        long scale() {
            return scale;
        }

        /**
         * THINGS that no SORT of the ROW wants change nothing but WEIGHT, PRICE and the BAG's number,
         * all of them for the worse: a BAG with one is never the one looked for.
         */
        private boolean isWorthATry(int bag, int wanted) {
            return (bag & ~wanted) == 0 && plan.mayBe(bag);
        }

        /** The BEST BAG of the ROW; the empty one may always be. */
        void findBest() {
            int wanted = rows.wanted();
            bag = NONE;
            for (int b = 0; b < BAGS; b++) {
                if (!isWorthATry(b, wanted)) continue;
                walk.take(b);
                if (bag == NONE || walk.sum() > sum) {
                    bag = b;
                    sum = walk.sum();
                    scale = walk.scale();
                }
            }
        }

        int findSure(int a, int b) {
            int wanted = rows.wanted();
            int found = NONE;
            for (int tried = 0; tried < BAGS; tried++) {
                if (!isWorthATry(tried, wanted)) continue;
                if (found != NONE && plan.weightOf(tried) >= plan.weightOf(found)) continue;
                walk.take(tried);
                if (walk.allDone() * b >= walk.scale() * a) found = tried;
            }
            return found;
        }

        /** KNOWING a CALL of the ROW, times scale(). */
        long gainByKnowing(int c) {
            Call call = plan.callWithSorts(c);
            int sorts = call == null ? 0 : call.sorts();
            long known = 0;
            for (int s = 0; s < sorts; s++) {
                Sort sort = plan.sortTold(c, s);
                rows.assume(c, s);
                findBest();
                if (sort != null) known += sum * sort.likely;
            }
            rows.forget();
            findBest();
            return known - sum;
        }

        /** The ROW and the BAG of BOTH; false: there are not so many CALLS. */
        boolean findBoth(int n) {
            boolean found = false;
            int topRow = 0, topBag = 0;
            long topSum = 0, topScale = 1;
            int ends = 1;
            for (int i = 0; i < n; i++) ends *= CALLS;
            for (int k = 0; k < ends; k++) {
                int tried = rowOf(k, n);
                if (rows.tell(tried, n) != FINE || rows.hasTwice()) continue;
                findBest();
                if (!found || sum * topScale > topSum * scale) {
                    found = true;
                    topRow = tried;
                    topBag = bag;
                    topSum = sum;
                    topScale = scale;
                }
            }
            row = topRow;
            bag = topBag;
            return found;
        }

        /** Row k of those of n CALLS in their order: the first CALL is the highest digit. */
        private static int rowOf(int k, int n) {
            int row = 0;
            int rest = k;
            for (int i = 0; i < n; i++) {
                row = row << 4 | rest % CALLS;
                rest /= CALLS;
            }
            return row;
        }
    }

    /** NOW: what CALLS of a set may bring if he goes by what he found. */
    private static final class Now {
        private final Plan plan;
        private int first;
        private long worth;
        private long scale;

        Now(Plan plan) {
            this.plan = plan;
        }

        int first() {
            return first;
        }

        /** VALUE times scale(). */
        long worth() {
            return worth;
        }

        long scale() {
            return scale;
        }

        void find(int place, int minute, int bag, int set) {
            first = NONE;
            worth = 0;
            scale = scaleOf(plan, set);
            for (int c = 0; c < CALLS; c++) {
                if ((set >> c & 1) == 0) continue;
                long going = going(plan, c, place, minute, bag, set);
                if (going > worth) {
                    worth = going;
                    first = c;
                }
            }
        }

        /** What below the CHANCES of the CALLS of a set together stands. */
        private static long scaleOf(Plan plan, int set) {
            long scale = 1;
            for (int c = 0; c < CALLS; c++) {
                Call call = plan.callWithSorts(c);
                if (call != null && (set >> c & 1) == 1) scale *= call.likely();
            }
            return scale;
        }

        /** What is left brings at the most, times scaleOf(set); a set of more CALLS than may be is not looked at. */
        private static long bestLeft(Plan plan, int place, int minute, int bag, int set) {
            long most = 0;
            if (Integer.bitCount(set) > LEFT_AT_MOST) return most;
            for (int c = 0; c < CALLS; c++) {
                if ((set >> c & 1) == 1) most = Math.max(most, going(plan, c, place, minute, bag, set));
            }
            return most;
        }

        /** What is left brings if he goes to CALL c now, times scaleOf(set). Each step takes a CALL off the set. */
        private static long going(Plan plan, int c, int place, int minute, int bag, int set) {
            Call call = plan.callWithSorts(c);
            int rest = set & ~(1 << c);
            if (call == null || rest == set) return 0;
            long unit = scaleOf(plan, rest);
            int there = minute + plan.wayBetween(place, call.place);
            if (call.lateAt(there)) {
                return call.likely() * (bestLeft(plan, call.place, there, bag, rest) - call.again * unit);
            }
            int start = call.startedAt(there);
            int failing = 0;
            long sum = 0;
            for (int s = 0; s < call.sorts(); s++) {
                Sort sort = call.sortTold(s);
                if (sort == null) continue;
                int left = sort.left(bag, plan.tools());
                if (left == NONE) failing += sort.likely;
                else sum += sort.likely * (call.worth * unit + bestLeft(plan, call.place, start + sort.minutes, left, rest));
            }
            if (failing == 0) return sum;
            return sum + failing * (bestLeft(plan, call.place, start + call.look, bag, rest) - call.again * unit);
        }
    }

    /** The BOOK of VISITS: what was wanted is kept, since a SORT may be told anew. */
    private static final class Book {
        private final Plan plan;
        private final int[] alls = new int[VISITS];
        private final int[] ones = new int[VISITS];
        private final int[] bags = new int[VISITS];
        private int visits;

        Book(Plan plan) {
            this.plan = plan;
        }

        int visits() {
            return visits;
        }

        int add(Sort sort, int bag) {
            if (visits >= VISITS) return FULL;
            put(alls, visits, sort.all);
            put(ones, visits, sort.one);
            put(bags, visits, bag);
            visits++;
            return visits;
        }

        private boolean isDone(int visit, int bag) {
            return Sort.isDone(bag, at(alls, visit), at(ones, visit));
        }

        int savedBy(int set) {
            int saved = 0;
            for (int i = 0; i < visits; i++) {
                int bag = at(bags, i);
                if (!isDone(i, bag) && isDone(i, bag | set)) saved++;
            }
            return saved;
        }

        int mostSaving(int k) {
            int top = NONE, found = 0;
            for (int set = 0; set < BAGS; set++) {
                if (Integer.bitCount(set) != k) continue;
                int saved = savedBy(set);
                if (saved > top) {
                    top = saved;
                    found = set;
                }
            }
            return found;
        }

        int doneBy(int bag) {
            int done = 0;
            for (int i = 0; i < visits; i++) {
                if (isDone(i, bag)) done++;
            }
            return done;
        }

        int bestBox() {
            int box = 0;
            int top = doneBy(box);
            for (int bag = 1; bag < BAGS; bag++) {
                if (!plan.mayBe(bag)) continue;
                int done = doneBy(bag);
                if (done > top || done == top && plan.weightOf(bag) < plan.weightOf(box)) {
                    box = bag;
                    top = done;
                }
            }
            return box;
        }
    }
}
