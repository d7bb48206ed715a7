/**
 * Whose row comes first. ../shared/DOC.md tells what each call answers; its words in capitals are
 * used here as they stand there. Whatever is needed is made by the constructors, and nothing later:
 * all calls of a run share one room.
 */
public final class RowFirst {
    public static final int NONE = -1, BAD = -2, STATE = -3, FULL = -4;
    public static final long NO = Long.MIN_VALUE;

    private static final int NOT_COME = -5;
    private static final int OTHER_KIND = -6;
    private static final int FAULT_AT_0 = -10;

    private static final int MOST_BYTES = 100;
    private static final int MOST_CLAUSES = 10;
    private static final int MOST_OPEN = 5;
    private static final int MOST_STALLS = 5;
    private static final int MOST_SIGNS = 3;
    private static final int MOST_WEIGHT = 4;
    private static final int MOST_FAIR = 9;
    private static final int DAYS = 10;
    private static final int MOST_IN_ROW = 6;
    private static final int MOST_ROWS = 6;
    private static final int MOST_PLAYERS = 4;
    private static final int MOST_V = 9;
    private static final int MOST_THROWS = 24;
    private static final int MOST_TO_PICK = 4;
    private static final int MOST_WITHIN = 15;
    private static final int MOST_OFTEN = 60;
    private static final int MOST_FREE = 30;
    private static final int MOST_TRACE = 20;

    private static final int PICKER = 0, FIRST = 1, BUYING = 2, STOPPING = 3;
    private static final int SECOND = 4, TEAM = 5, TOLD = 6;
    private static final int KINDS = 7;
    private static final int[] ABOVE = {-1, PICKER, PICKER, PICKER, FIRST, BUYING, STOPPING};

    private static final int PICKS = 0, PAYS = 1, TELLS = 2;
    private static final int ACTS = 3;

    private final Things now;
    private final Things kept;
    private boolean hasImage;
    private final Stall draft;
    private final Reader reader;
    private final Scale scale;
    private final Duel duel;
    private final Chooser chooser;
    private final Race race;
    private final Actor actor;

    public RowFirst() {
        now = new Things();
        kept = new Things();
        hasImage = false;
        draft = new Stall();
        reader = new Reader();
        scale = new Scale();
        duel = new Duel();
        chooser = new Chooser();
        race = new Race();
        actor = new Actor();
    }

    // ---- stalls, signs, rows, players

    public int feed(int sign) {
        if (sign < 0 || sign > 127) {
            return BAD;
        }
        return now.addByte(sign) ? now.bytes : FULL;
    }

    public int stall() {
        if (now.stalls >= MOST_STALLS) {
            return FULL;
        }
        int fault = reader.read(now.tape, now.bytes, draft);
        now.bytes = 0;
        if (fault >= 0) {
            return FAULT_AT_0 - fault;
        }
        now.holding.copy(draft);
        now.stalls++;
        return now.stalls - 1;
    }

    public int day(int n) {
        if (n < 0 || n >= DAYS) {
            return BAD;
        }
        int before = now.today;
        now.today = n;
        return before;
    }

    public int told(int what) {
        weigh();
        switch (what) {
            case 0: return scale.signs;
            case 1: return now.holding.fee;
            case 2: return now.holding.prize;
            case 3: return now.today;
            case 4: return scale.all;
            case 10: case 11: case 12:
                return what - 10 < scale.signs ? scale.weightOf(what - 10) : NONE;
            default: return NONE;
        }
    }

    public int sign(int s) {
        if (s < -1 || s >= MOST_SIGNS) {
            return BAD;
        }
        return lengthen(now.strip, s, MOST_IN_ROW);
    }

    public int row() {
        if (now.strip.size == 0) {
            return STATE;
        }
        if (now.rowCount >= MOST_ROWS) {
            return FULL;
        }
        now.rows[now.rowCount].copy(now.strip);
        now.strip.zeros(0);
        now.rowCount++;
        return now.rowCount - 1;
    }

    public int of(int row, int k) {
        return partOfRow(now.rowAt(row), k);
    }

    public int player(int kind, int v) {
        if (kind < 0 || kind >= KINDS) {
            return NONE;
        }
        if (v < 0 || v > MOST_V) {
            return BAD;
        }
        return now.addPlayer(kind, v) ? now.playerCount - 1 : FULL;
    }

    public int own(int player) {
        if (!now.hasPlayer(player)) {
            return NONE;
        }
        if (now.kinds[player] != TOLD) {
            return STATE;
        }
        now.owns[player].copy(now.strip);
        now.strip.zeros(0);
        return now.owns[player].size;
    }

    // ---- odds

    public long waits(int row, int part) {
        weigh();
        Line line = lawfulRow(row);
        if (line == null || !isPart(part)) {
            return NO;
        }
        return fraction(scale.lap(line, line), scale.product(line), part);
    }

    public long odds(int one, int other, int part) {
        if (!isPart(part) || !measured(one, other)) {
            return NO;
        }
        return fraction(duel.pro, duel.both, part);
    }

    public long lasts(int one, int other, int part) {
        if (!isPart(part) || !measured(one, other)) {
            return NO;
        }
        return fraction(duel.length, duel.both, part);
    }

    public long half(int one, int other, int part) {
        if (!isPart(part) || !measured(one, other)) {
            return NO;
        }
        Line a = now.rowAt(one);
        Line b = now.rowAt(other);
        Line thrown = now.thrown;
        if (a == null || b == null || !scale.isLawful(thrown) || thrown.has(a) || thrown.has(b)) {
            return NO;
        }
        long gone = scale.lap(thrown, b) * scale.product(a);
        long won = scale.lap(thrown, a) * scale.product(b);
        return fraction(duel.pro - gone + won, duel.both, part);
    }

    public long worth(int one, int other, int part) {
        if (!isPart(part) || !measured(one, other)) {
            return NO;
        }
        long value = now.holding.prize * duel.pro - now.holding.fee * duel.length;
        return fraction(value, duel.both, part);
    }

    // ---- what to pick

    public int best(int row, int n, int k) {
        Line line = now.rowAt(row);
        if (line == null || k < 0 || k >= MOST_TO_PICK) {
            return NONE;
        }
        if (n < 1 || n > MOST_TO_PICK) {
            return BAD;
        }
        weigh();
        if (!scale.isLawful(line)) {
            return STATE;
        }
        return chooser.findBest(scale, duel, line, n) ? chooser.found.signAt(k) : NONE;
    }

    public int ring(int a, int b, int c) {
        Line first = now.rowAt(a);
        Line second = now.rowAt(b);
        Line third = now.rowAt(c);
        if (first == null || second == null || third == null) {
            return NONE;
        }
        weigh();
        if (!scale.isLawful(first) || !scale.isLawful(second) || !scale.isLawful(third)) {
            return STATE;
        }
        return beats(first, second) && beats(second, third) && beats(third, first) ? 1 : 0;
    }

    public int pick(int player, int row, int k) {
        Line line = now.rowAt(row);
        if (!now.hasPlayer(player) || line == null || k < -1 || k >= MOST_IN_ROW) {
            return NONE;
        }
        weigh();
        if (!scale.isLawful(line)) {
            return STATE;
        }
        return partOfRow(pickedBy(player, line), k);
    }

    public int fair(int one, int other) {
        Line a = now.rowAt(one);
        Line b = now.rowAt(other);
        if (a == null || b == null) {
            return NONE;
        }
        weigh();
        if (!scale.isLawful(a) || !scale.isLawful(b) || !a.isApart(b)) {
            return STATE;
        }
        return fairest(a, b);
    }

    // ---- throws

    public long within(int row, int n, int part) {
        weigh();
        if (lawfulRow(row) == null || n < 0 || n > MOST_WITHIN || !isPart(part)) {
            return NO;
        }
        race.build(now, scale);
        return fraction(race.winsOf(row, n), power(scale.all, n), part);
    }

    public long often(int row, int n, int part) {
        weigh();
        Line line = lawfulRow(row);
        if (line == null || n < 0 || n > MOST_OFTEN || !isPart(part)) {
            return NO;
        }
        long places = Math.max(0, n - line.size + 1);
        return fraction(places * scale.product(line), power(scale.all, line.size), part);
    }

    public long free(int n) {
        if (n < 0 || n > MOST_FREE) {
            return NO;
        }
        weigh();
        race.build(now, scale);
        return race.rowsWithNone(n);
    }

    public int toss(int s) {
        if (s < -1 || s >= MOST_SIGNS) {
            return BAD;
        }
        return lengthen(now.thrown, s, MOST_THROWS);
    }

    public int came(int row) {
        Line line = now.rowAt(row);
        if (line == null) {
            return NONE;
        }
        return now.thrown.firstEndOf(line);
    }

    public int ends(int row) {
        Line line = now.rowAt(row);
        if (line == null) {
            return NONE;
        }
        int times = 0;
        for (int t = 1; t <= now.thrown.size; t++) {
            if (now.thrown.endsAt(line, t)) {
                times++;
            }
        }
        return times;
    }

    public int ahead() {
        for (int t = 1; t <= now.thrown.size; t++) {
            for (int r = 0; r < now.rowCount; r++) {
                if (now.thrown.endsAt(now.rows[r], t)) {
                    return r;
                }
            }
        }
        return NOT_COME;
    }

    // ---- acts, the image

    public int act(int player, int act, int x) {
        actor.forget();
        if (!now.hasPlayer(player) || act < 0 || act >= ACTS) {
            return 0;
        }
        return actor.perform(now, player, act, x);
    }

    public int trace(int i) {
        return i < 0 || i >= actor.ran || i >= MOST_TRACE ? NONE : actor.bodies[i];
    }

    public int as(int player, int k) {
        if (!now.hasPlayer(player) || k < 0 || k >= KINDS) {
            return NONE;
        }
        int kind = now.kinds[player];
        for (int i = 0; i < KINDS && kind >= 0; i++) {
            if (kind == k) {
                return now.numbers[player];
            }
            kind = above(kind);
        }
        return OTHER_KIND;
    }

    public int image() {
        kept.copy(now);
        hasImage = true;
        return now.rowCount;
    }

    public int undo() {
        if (!hasImage) {
            return STATE;
        }
        now.copy(kept);
        return now.rowCount;
    }

    public int count(int what) {
        switch (what) {
            case 0: return now.rowCount;
            case 1: return now.playerCount;
            case 2: return now.stalls;
            case 3: return now.strip.size;
            case 4: return now.thrown.size;
            case 5: return now.bytes;
            case 6: return actor.ran;
            default: return NONE;
        }
    }

    // ---- what the calls share

    private void weigh() {
        scale.weigh(now.holding, now.today);
    }

    private static boolean isPart(int part) {
        return part == 0 || part == 1;
    }

    private static int above(int kind) {
        return kind < 0 || kind >= KINDS ? -1 : ABOVE[kind];
    }

    /** The ROW, or null when there is none or it is not LAWFUL. */
    private Line lawfulRow(int row) {
        Line line = now.rowAt(row);
        return line != null && scale.isLawful(line) ? line : null;
    }

    /** Lays the one against the other, if both are LAWFUL ROWS and APART. */
    private boolean measured(int one, int other) {
        weigh();
        Line a = lawfulRow(one);
        Line b = lawfulRow(other);
        if (a == null || b == null || !a.isApart(b)) {
            return false;
        }
        duel.measure(scale, a, b);
        return true;
    }

    private boolean beats(Line a, Line b) {
        if (!a.isApart(b)) {
            return false;
        }
        duel.measure(scale, a, b);
        return duel.pro > duel.contra;
    }

    private static int lengthen(Line line, int s, int most) {
        if (s < 0) {
            line.zeros(0);
            return 0;
        }
        if (line.size >= most) {
            return FULL;
        }
        line.add(s);
        return line.size;
    }

    private static int partOfRow(Line line, int k) {
        if (line == null) {
            return NONE;
        }
        return k == -1 ? line.size : line.signAt(k);
    }

    private Line pickedBy(int player, Line row) {
        int n = now.numbers[player] % MOST_TO_PICK + 1;
        switch (now.kinds[player]) {
            case FIRST:
                chooser.findByWait(scale, n, false);
                break;
            case BUYING:
                chooser.findByWait(scale, n, true);
                break;
            case STOPPING:
                chooser.findBeside(scale, row);
                break;
            case SECOND:
                if (!chooser.findBest(scale, duel, row, n)) {
                    chooser.findByWait(scale, n, false);
                }
                break;
            case TEAM:
                if (!chooser.findSlowBest(scale, duel, row, n)) {
                    chooser.findByWait(scale, n, true);
                }
                break;
            case TOLD:
                if (now.owns[player].size > 0) {
                    return now.owns[player];
                }
                chooser.findBeside(scale, row);
                break;
            default:
                chooser.found.zeros(n);
        }
        return chooser.found;
    }

    /** ODDS are off a half by |pro - contra| of twice both: the halving is the same for all. */
    private int fairest(Line a, Line b) {
        int least = 0;
        long leastOff = 0;
        long leastBoth = 1;
        for (int weight = 1; weight <= MOST_FAIR; weight++) {
            scale.putFirst(weight);
            duel.measure(scale, a, b);
            long off = Math.abs(duel.pro - duel.contra);
            if (least == 0 || compare(off, duel.both, leastOff, leastBoth) < 0) {
                least = weight;
                leastOff = off;
                leastBoth = duel.both;
            }
        }
        return least;
    }

    private static long fraction(long top, long bottom, int part) {
        long common = divisor(Math.abs(top), Math.abs(bottom));
        if (common == 0) {
            return NO;
        }
        return (part == 0 ? top : bottom) / common;
    }

    private static long divisor(long a, long b) {
        long big = a;
        long small = b;
        for (int i = 0; i < 200 && small != 0; i++) {
            long rest = big % small;
            big = small;
            small = rest;
        }
        return big;
    }

    /**
     * Below 0, 0 or above 0, as a/b is less than, as much as or more than c/d (none below 0). By
     * continued fractions: multiplied crosswise they would not fit.
     */
    private static int compare(long a, long b, long c, long d) {
        long top1 = a;
        long low1 = b;
        long top2 = c;
        long low2 = d;
        for (int i = 0; i < 200; i++) {
            if (low1 == 0 || low2 == 0) {
                return low1 == low2 ? 0 : (low1 == 0 ? 1 : -1);
            }
            long whole1 = top1 / low1;
            long whole2 = top2 / low2;
            if (whole1 != whole2) {
                return whole1 < whole2 ? -1 : 1;
            }
            long rest1 = top1 - whole1 * low1;
            long rest2 = top2 - whole2 * low2;
            // rest1/low1 is less than rest2/low2 just when low2/rest2 is less than low1/rest1.
            top1 = low2;
            top2 = low1;
            low1 = rest2;
            low2 = rest1;
        }
        return 0;
    }

    private static long power(long base, int n) {
        long result = 1;
        for (int i = 0; i < n; i++) {
            result *= base;
        }
        return result;
    }

    /** Signs, one behind another: two bits each, the last one lowest; never more than 24. */
    private static final class Line {
        int size;
        long bits;

        void zeros(int n) {
            size = n;
            bits = 0;
        }

        void copy(Line from) {
            size = from.size;
            bits = from.bits;
        }

        void add(int s) {
            bits = bits << 2 | s;
            size++;
        }

        int signAt(int k) {
            return k < 0 || k >= size ? NONE : (int) (bits >> 2 * (size - 1 - k)) & 3;
        }

        long firstOnes(int k) {
            return bits >> 2 * (size - k);
        }

        long lastOnes(int k) {
            return bits & (1L << 2 * k) - 1;
        }

        void putLast(int s) {
            bits = bits - lastOnes(1) + s;
        }

        /** Becomes the next row of as many SIGNS; false when this was the last one. */
        boolean stepOn(int signs) {
            for (int place = 0; place < size; place++) {
                long s = bits >> 2 * place & 3;
                if (s + 1 < signs) {
                    bits += 1L << 2 * place;
                    return true;
                }
                bits -= s << 2 * place;
            }
            return false;
        }

        /** Whether the row is what the first t signs end with. */
        boolean endsAt(Line row, int t) {
            return t >= row.size && t <= size
                && (firstOnes(t) & (1L << 2 * row.size) - 1) == row.bits;
        }

        int firstEndOf(Line row) {
            for (int t = row.size; t <= size; t++) {
                if (endsAt(row, t)) {
                    return t;
                }
            }
            return NOT_COME;
        }

        boolean has(Line row) {
            return firstEndOf(row) != NOT_COME;
        }

        boolean isApart(Line row) {
            return firstEndOf(row) == NOT_COME && row.firstEndOf(this) == NOT_COME;
        }
    }

    /**
     * What the CLAUSES say. Of a heavy the places where its E holds are kept, a bit for each
     * SIGNS, SIGN and DAY: these are 60.
     */
    private static final class Stall {
        int signs;
        int fee;
        int prize;
        int heavies;
        final int[] loads;
        final long[] places;

        Stall() {
            loads = new int[MOST_CLAUSES];
            places = new long[MOST_CLAUSES];
            clear();
        }

        void clear() {
            signs = 2;
            fee = 1;
            prize = 10;
            heavies = 0;
        }

        void copy(Stall from) {
            signs = from.signs;
            fee = from.fee;
            prize = from.prize;
            heavies = from.heavies;
            for (int i = 0; i < MOST_CLAUSES; i++) {
                loads[i] = from.loads[i];
                places[i] = from.places[i];
            }
        }

        void addHeavy(int load, long where) {
            if (heavies < MOST_CLAUSES) {
                loads[heavies] = load;
                places[heavies] = where;
                heavies++;
            }
        }

        int weightOf(int s, int today) {
            int weight = 1;
            for (int i = 0; i < heavies; i++) {
                if ((places[i] >> place(signs, s, today) & 1) != 0) {
                    weight += loads[i];
                }
            }
            return Math.min(weight, MOST_WEIGHT);
        }

        static int place(int signs, int s, int today) {
            return ((signs - 2) * MOST_SIGNS + s) * DAYS + today;
        }

        /** Where the TEST holds. */
        static long placesOf(int letter, int sort, int number) {
            long where = 0;
            for (int g = 2; g <= MOST_SIGNS; g++) {
                for (int s = 0; s < MOST_SIGNS; s++) {
                    for (int d = 0; d < DAYS; d++) {
                        int value = letter == 's' ? s : (letter == 'g' ? g : d);
                        if (holds(value, sort, number)) {
                            where |= 1L << place(g, s, d);
                        }
                    }
                }
            }
            return where;
        }

        private static boolean holds(int value, int sort, int number) {
            if (sort == '<') {
                return value < number;
            }
            return sort == '>' ? value > number : value == number;
        }
    }

    /** Reads a STALL from THE TAPE. It stands still at the first byte that cannot be. */
    private static final class Reader {
        private int[] tape;
        private int end;
        private int at;
        private boolean stuck;
        private Stall draft;

        /** The FAULT, or -1. */
        int read(int[] bytes, int size, Stall into) {
            tape = bytes;
            end = Math.min(size, bytes.length);
            at = 0;
            stuck = false;
            draft = into;
            draft.clear();
            for (int n = 1; n <= MOST_CLAUSES; n++) {
                readClause();
                if (stuck) {
                    return at;
                }
                if (at == end) {
                    return -1;
                }
                if (n == MOST_CLAUSES || next() != ';') {
                    return at;
                }
                at++;
            }
            return at;
        }

        private void readClause() {
            int first = next();
            if (first == 'h') {
                readWord("heavy ");
                int load = readNumber();
                take(' ');
                draft.addHeavy(load, readE(0));
            } else if (first == 's') {
                readWord("signs ");
                draft.signs = readNumber() > 2 ? 3 : 2;
            } else if (first == 'f') {
                readWord("fee ");
                draft.fee = readNumber();
            } else {
                readWord("prize ");
                draft.prize = readNumber();
            }
        }

        private long readE(int open) {
            long where = readT(open);
            for (int i = 0; i < MOST_BYTES && !stuck && next() == '|'; i++) {
                at++;
                where |= readT(open);
            }
            return where;
        }

        private long readT(int open) {
            long where = readF(open);
            for (int i = 0; i < MOST_BYTES && !stuck && next() == '&'; i++) {
                at++;
                where &= readF(open);
            }
            return where;
        }

        private long readF(int open) {
            int first = next();
            if (first == '!' || first == '(') {
                if (stuck || open >= MOST_OPEN) {
                    stuck = true;
                    return 0;
                }
                at++;
                if (first == '!') {
                    return ~readF(open + 1);
                }
                long where = readE(open + 1);
                take(')');
                return where;
            }
            int letter = takeOneOf("sgd");
            int sort = takeOneOf("<=>");
            int number = readNumber();
            return stuck ? 0 : Stall.placesOf(letter, sort, number);
        }

        private int readNumber() {
            int first = next();
            if (stuck || first < '0' || first > '9') {
                stuck = true;
                return 0;
            }
            at++;
            int second = next();
            if (first == '0' || second < '0' || second > '9') {
                return first - '0';
            }
            at++;
            return (first - '0') * 10 + second - '0';
        }

        private void readWord(String word) {
            for (int i = 0; i < word.length(); i++) {
                take(word.charAt(i));
            }
        }

        private void take(int wanted) {
            if (!stuck && next() == wanted) {
                at++;
            } else {
                stuck = true;
            }
        }

        private int takeOneOf(String wanted) {
            int found = next();
            for (int i = 0; i < wanted.length() && !stuck; i++) {
                if (wanted.charAt(i) == found) {
                    at++;
                    return found;
                }
            }
            stuck = true;
            return 0;
        }

        private int next() {
            return at < 0 || at >= end || at >= tape.length ? -1 : tape[at];
        }
    }

    /** All that THE IMAGE holds. */
    private static final class Things {
        final int[] tape;
        int bytes;
        final Stall holding;
        int stalls;
        int today;
        final Line strip;
        final Line[] rows;
        int rowCount;
        final int[] kinds;
        final int[] numbers;
        final Line[] owns;
        int playerCount;
        final Line thrown;

        Things() {
            tape = new int[MOST_BYTES];
            holding = new Stall();
            strip = new Line();
            rows = new Line[MOST_ROWS];
            for (int i = 0; i < MOST_ROWS; i++) {
                rows[i] = new Line();
            }
            kinds = new int[MOST_PLAYERS];
            numbers = new int[MOST_PLAYERS];
            owns = new Line[MOST_PLAYERS];
            for (int i = 0; i < MOST_PLAYERS; i++) {
                owns[i] = new Line();
            }
            thrown = new Line();
        }

        void copy(Things from) {
            for (int i = 0; i < from.bytes; i++) {
                tape[i] = from.tape[i];
            }
            bytes = from.bytes;
            holding.copy(from.holding);
            stalls = from.stalls;
            today = from.today;
            strip.copy(from.strip);
            for (int i = 0; i < MOST_ROWS; i++) {
                rows[i].copy(from.rows[i]);
            }
            rowCount = from.rowCount;
            for (int i = 0; i < MOST_PLAYERS; i++) {
                kinds[i] = from.kinds[i];
                numbers[i] = from.numbers[i];
                owns[i].copy(from.owns[i]);
            }
            playerCount = from.playerCount;
            thrown.copy(from.thrown);
        }

        boolean addByte(int value) {
            if (bytes >= MOST_BYTES) {
                return false;
            }
            tape[bytes] = value;
            bytes++;
            return true;
        }

        boolean addPlayer(int kind, int v) {
            if (playerCount >= MOST_PLAYERS) {
                return false;
            }
            kinds[playerCount] = kind;
            numbers[playerCount] = v;
            playerCount++;
            return true;
        }

        boolean hasPlayer(int player) {
            return player >= 0 && player < playerCount;
        }

        Line rowAt(int row) {
            return row < 0 || row >= rowCount ? null : rows[row];
        }
    }

    /** SIGNS and their WEIGHTS as they are now. */
    private static final class Scale {
        int signs;
        int all;
        private final int[] weights;

        Scale() {
            weights = new int[MOST_SIGNS];
        }

        void weigh(Stall stall, int today) {
            signs = stall.signs;
            all = 0;
            for (int s = 0; s < MOST_SIGNS; s++) {
                weights[s] = s < signs ? stall.weightOf(s, today) : 0;
                all += weights[s];
            }
        }

        void putFirst(int weight) {
            all += weight - weights[0];
            weights[0] = weight;
        }

        int weightOf(int s) {
            return s < 0 || s >= MOST_SIGNS ? 0 : weights[s];
        }

        boolean isLawful(Line line) {
            for (int k = 0; k < line.size; k++) {
                if (line.signAt(k) >= signs) {
                    return false;
                }
            }
            return true;
        }

        /** The WEIGHTS of its signs, multiplied. */
        long product(Line line) {
            long result = 1;
            for (int k = 0; k < line.size; k++) {
                result *= weightOf(line.signAt(k));
            }
            return result;
        }

        /** LAP of x on y times product(y): so it is a whole number. */
        long lap(Line x, Line y) {
            long sum = 0;
            long power = 1;
            for (int k = 1; k <= y.size; k++) {
                power *= all;
                sum *= weightOf(y.signAt(k - 1));
                if (k <= x.size && x.lastOnes(k) == y.firstOnes(k)) {
                    sum += power;
                }
            }
            return sum;
        }
    }

    /**
     * Two rows against each other, everything times both products: ODDS are pro of both, LASTS is
     * length of both (the document's sum, put over one line: so it stays far below 2 to the 63).
     */
    private static final class Duel {
        long pro;
        long contra;
        long both;
        long length;

        void measure(Scale scale, Line a, Line b) {
            long productA = scale.product(a);
            long productB = scale.product(b);
            long aOnA = scale.lap(a, a);
            long bOnA = scale.lap(b, a);
            long bOnB = scale.lap(b, b);
            long aOnB = scale.lap(a, b);
            pro = bOnB * productA - bOnA * productB;
            contra = aOnA * productB - aOnB * productA;
            both = pro + contra;
            length = aOnA * bOnB - bOnA * aOnB;
        }
    }

    /** Goes through the rows of n SIGNS in their order, and finds one: of several the first. */
    private static final class Chooser {
        private static final int ROWS_OF_4 = 81;

        final Line found;
        private final Line tried;
        private boolean any;
        private long foundTop;
        private long foundLow;

        Chooser() {
            found = new Line();
            tried = new Line();
        }

        private void begin(int n) {
            tried.zeros(n);
            any = false;
        }

        /** Takes what is tried, if it is the first or its top/low is more (or less) than the found one's. */
        private void consider(long top, long low, boolean most) {
            int more = any ? compare(top, low, foundTop, foundLow) : 0;
            if (!any || (most ? more > 0 : more < 0)) {
                any = true;
                found.copy(tried);
                foundTop = top;
                foundLow = low;
            }
        }

        private void considerWait(Scale scale, boolean longest) {
            consider(scale.lap(tried, tried), scale.product(tried), longest);
        }

        /** BEST. */
        boolean findBest(Scale scale, Duel duel, Line against, int n) {
            begin(n);
            boolean more = true;
            for (int i = 0; i < ROWS_OF_4 && more; i++) {
                if (tried.isApart(against)) {
                    duel.measure(scale, tried, against);
                    consider(duel.pro, duel.both, true);
                }
                more = tried.stepOn(scale.signs);
            }
            return any;
        }

        /** Of the rows that come ahead at least as often as not the one with the longest WAIT. */
        boolean findSlowBest(Scale scale, Duel duel, Line against, int n) {
            begin(n);
            boolean more = true;
            for (int i = 0; i < ROWS_OF_4 && more; i++) {
                if (tried.isApart(against)) {
                    duel.measure(scale, tried, against);
                    if (duel.pro >= duel.contra) {
                        considerWait(scale, true);
                    }
                }
                more = tried.stepOn(scale.signs);
            }
            return any;
        }

        void findByWait(Scale scale, int n, boolean longest) {
            begin(n);
            boolean more = true;
            for (int i = 0; i < ROWS_OF_4 && more; i++) {
                considerWait(scale, longest);
                more = tried.stepOn(scale.signs);
            }
        }

        /** The row, its last sign being 1 more. */
        void findBeside(Scale scale, Line row) {
            int last = row.signAt(row.size - 1) + 1;
            found.copy(row);
            found.putLast(last < scale.signs ? last : 0);
        }
    }

    /** All LAWFUL ROWS at once: what has been thrown is known by the longest end that begins one. */
    private static final class Race {
        private static final int MOST_NODES = MOST_ROWS * MOST_IN_ROW + 1;
        private static final int NOBODY = MOST_ROWS;

        private final int[] next;
        private final int[] shorter;
        private final int[] winner;
        private final int[] place;
        private long[] ways;
        private long[] waysThen;
        private int nodes;
        private int signs;

        private Scale scale;

        Race() {
            next = new int[MOST_NODES * MOST_SIGNS];
            shorter = new int[MOST_NODES];
            winner = new int[MOST_NODES];
            place = new int[MOST_ROWS];
            ways = new long[MOST_NODES];
            waysThen = new long[MOST_NODES];
        }

        void build(Things things, Scale weights) {
            scale = weights;
            signs = weights.signs;
            nodes = 0;
            addNode();
            for (int r = 0; r < MOST_ROWS; r++) {
                place[r] = 0;
            }
            // All rows grow together: so a node's number is above those of all shorter ones.
            for (int depth = 0; depth < MOST_IN_ROW; depth++) {
                for (int r = 0; r < things.rowCount; r++) {
                    if (weights.isLawful(things.rows[r])) {
                        grow(things.rows[r], r, depth);
                    }
                }
            }
            link();
        }

        private int addNode() {
            if (nodes >= MOST_NODES) {
                return 0;
            }
            for (int s = 0; s < MOST_SIGNS; s++) {
                next[nodes * MOST_SIGNS + s] = -1;
            }
            shorter[nodes] = 0;
            winner[nodes] = NOBODY;
            nodes++;
            return nodes - 1;
        }

        private void grow(Line row, int r, int depth) {
            int s = row.signAt(depth);
            if (s < 0) {
                return;
            }
            int way = place[r] * MOST_SIGNS + s;
            if (next[way] < 0) {
                next[way] = addNode();
            }
            place[r] = next[way];
            if (depth == row.size - 1) {
                winner[place[r]] = Math.min(winner[place[r]], r);
            }
        }

        private void link() {
            for (int node = 0; node < nodes; node++) {
                for (int s = 0; s < signs; s++) {
                    int way = node * MOST_SIGNS + s;
                    int back = node == 0 ? 0 : next[shorter[node] * MOST_SIGNS + s];
                    if (next[way] < 0) {
                        next[way] = back;
                    } else {
                        int child = next[way];
                        shorter[child] = back;
                        winner[child] = Math.min(winner[child], winner[back]);
                    }
                }
            }
        }

        private void begin() {
            for (int node = 0; node < nodes; node++) {
                ways[node] = 0;
            }
            ways[0] = 1;
        }

        /** One throw; the ways by which the row has won with it. Who has won, is out. */
        private long throwOnce(int row, boolean weighed) {
            long won = 0;
            for (int node = 0; node < nodes; node++) {
                waysThen[node] = 0;
            }
            for (int node = 0; node < nodes; node++) {
                for (int s = 0; s < signs && ways[node] != 0; s++) {
                    int to = next[node * MOST_SIGNS + s];
                    long more = ways[node] * (weighed ? scale.weightOf(s) : 1);
                    if (winner[to] == NOBODY) {
                        waysThen[to] += more;
                    } else if (winner[to] == row) {
                        won += more;
                    }
                }
            }
            long[] before = ways;
            ways = waysThen;
            waysThen = before;
            return won;
        }

        /** Of all throws, each counted by its WEIGHTS, those by which the row comes first. */
        long winsOf(int row, int n) {
            begin();
            long won = 0;
            for (int i = 0; i < n; i++) {
                won = won * scale.all + throwOnce(row, true);
            }
            return won;
        }

        long rowsWithNone(int n) {
            begin();
            for (int i = 0; i < n; i++) {
                throwOnce(NOBODY, false);
            }
            long sum = 0;
            for (int node = 0; node < nodes; node++) {
                sum += ways[node];
            }
            return sum;
        }
    }

    /** ACTS and THE TRACE. */
    private static final class Actor {
        /** Of each KIND the bodies for picks, pays, tells; 0 where it has none. */
        private static final int[] BODIES = {
            1, 2, 3, 11, 0, 0, 0, 21, 0, 0, 0, 31, 0, 0, 41, 51, 0, 0, 0, 61, 0
        };
        /** No act comes near this. */
        private static final int MOST_DEEP = 20;

        final int[] bodies;
        int ran;
        private int kind;
        private int v;
        private int i;

        Actor() {
            bodies = new int[MOST_TRACE];
        }

        void forget() {
            ran = 0;
        }

        int perform(Things things, int player, int act, int x) {
            if (!things.hasPlayer(player)) {
                return 0;
            }
            kind = things.kinds[player];
            v = things.numbers[player];
            i = player;
            return run(kind, act, x, 0);
        }

        private static int bodyOf(int kind, int act) {
            return kind < 0 || kind >= KINDS || act < 0 || act >= ACTS ? 0 : BODIES[kind * ACTS + act];
        }

        private void note(int body) {
            if (ran < MOST_TRACE) {
                bodies[ran] = body;
            }
            ran++;
        }

        /** Runs the body that the KIND has, or the next KIND above that has one. */
        private int run(int from, int act, int x, int deep) {
            if (deep >= MOST_DEEP) {
                return 0;
            }
            int at = from;
            for (int step = 0; step < KINDS && bodyOf(at, act) == 0; step++) {
                at = above(at);
            }
            int body = bodyOf(at, act);
            int up = above(at);
            int down = deep + 1;
            note(body);
            switch (body) {
                case 1: return x + i;
                case 2: return run(kind, PICKS, x, down) - v;
                case 3: return run(kind, PAYS, x, down) * 2;
                case 11: return run(up, PICKS, x * 3, down);
                case 21: return -run(up, PAYS, x, down);
                case 31: return run(up, TELLS, x, down) ^ 7;
                case 41: return run(up, TELLS, x - 1, down) + run(kind, PICKS, 2, down);
                case 51: return run(up, PICKS, x, down) ^ i;
                case 61: return run(up, PAYS, x, down) + v;
                default: return 0;
            }
        }
    }
}
