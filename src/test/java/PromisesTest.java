/** Each promise by itself: ordinary calls, the edges, wrong calls and which refusal comes first. */
public final class PromisesTest {
    private static final int LOW = Integer.MIN_VALUE, HIGH = Integer.MAX_VALUE;
    private static final long NO = Long.MIN_VALUE;

    private static final Check CHECK = new Check();

    public static void main(String[] args) {
        newObject();
        feed();
        stall();
        stallFaults();
        stallDepths();
        stallClauses();
        day();
        told();
        toldWeights();
        sign();
        row();
        of();
        player();
        own();
        waits();
        odds();
        lasts();
        half();
        worth();
        best();
        ring();
        pick();
        pickTeam();
        pickRefused();
        fair();
        within();
        often();
        free();
        toss();
        came();
        ends();
        ahead();
        act();
        trace();
        as();
        image();
        undo();
        count();
        CHECK.finish();
    }

    private static void due(String call, long got, long want) {
        CHECK.due(call, got, want);
    }

    private static void tape(RowFirst x, String text) {
        for (char c : text.toCharArray()) {
            x.feed(c);
        }
    }

    private static RowFirst with(String stall, String... rows) {
        RowFirst x = new RowFirst();
        if (!stall.isEmpty()) {
            tape(x, stall);
            CHECK.due("stall() of " + stall, x.stall(), 0);
        }
        for (String row : rows) {
            strip(x, row);
            x.row();
        }
        return x;
    }

    private static void strip(RowFirst x, String signs) {
        for (char c : signs.toCharArray()) {
            x.sign(c - '0');
        }
    }

    private static void tosses(RowFirst x, String signs) {
        x.toss(-1);
        for (char c : signs.toCharArray()) {
            x.toss(c - '0');
        }
    }

    private static int read(String text) {
        RowFirst x = new RowFirst();
        tape(x, text);
        return x.stall();
    }

    private static void fraction(String call, long top, long low, long wantTop, long wantLow) {
        CHECK.due(call + " above", top, wantTop);
        CHECK.due(call + " below", low, wantLow);
    }

    private static void dueOdds(RowFirst x, int one, int other, long top, long low) {
        fraction("odds(" + one + ", " + other + ")", x.odds(one, other, 0), x.odds(one, other, 1), top, low);
    }

    private static void dueHalf(RowFirst x, String thrown, int one, int other, long top, long low) {
        tosses(x, thrown);
        fraction("half(" + one + ", " + other + ") behind " + thrown,
            x.half(one, other, 0), x.half(one, other, 1), top, low);
    }

    private static void newObject() {
        CHECK.part("promise 1");
        RowFirst x = new RowFirst();
        for (int what = 0; what <= 6; what++) {
            due("count(" + what + ")", x.count(what), 0);
        }
        due("told(0)", x.told(0), 2);
        due("told(1)", x.told(1), 1);
        due("told(2)", x.told(2), 10);
        due("told(3)", x.told(3), 0);
        due("told(4)", x.told(4), 2);
        due("undo()", x.undo(), -3);
        due("of(0, -1)", x.of(0, -1), -1);
        due("trace(0)", x.trace(0), -1);
        due("NONE", RowFirst.NONE, -1);
        due("BAD", RowFirst.BAD, -2);
        due("STATE", RowFirst.STATE, -3);
        due("FULL", RowFirst.FULL, -4);
        due("NO", RowFirst.NO, NO);
        x.sign(0);
        due("another one's count(3)", new RowFirst().count(3), 0);
    }

    private static void feed() {
        CHECK.part("promise 2");
        RowFirst x = new RowFirst();
        due("feed(0)", x.feed(0), 1);
        due("feed(127)", x.feed(127), 2);
        due("feed(-1)", x.feed(-1), -2);
        due("feed(128)", x.feed(128), -2);
        due("feed(LOW)", x.feed(LOW), -2);
        due("feed(HIGH)", x.feed(HIGH), -2);
        for (int i = 3; i <= 100; i++) {
            due("feed(65)", x.feed(65), i);
        }
        due("feed(65) the 101st", x.feed(65), -4);
        due("feed(128) when full", x.feed(128), -2);
        due("count(5)", x.count(5), 100);
    }

    private static void stall() {
        CHECK.part("promise 3");
        RowFirst x = with("signs 3;fee 7");
        due("count(5) behind a stall", x.count(5), 0);
        tape(x, "fee 8;x");
        due("stall() with a fault", x.stall(), -16);
        due("count(5) behind a fault", x.count(5), 0);
        due("told(1) behind a fault", x.told(1), 7);
        due("told(0) behind a fault", x.told(0), 3);
        due("count(2) behind a fault", x.count(2), 1);
        tape(x, "prize 0");
        due("stall() the second", x.stall(), 1);
        due("told(0)", x.told(0), 2);
        due("told(1)", x.told(1), 1);
        due("told(2)", x.told(2), 0);
        for (int i = 2; i < 5; i++) {
            tape(x, "fee " + i);
            due("stall() the next", x.stall(), i);
        }
        tape(x, "fee 9");
        due("stall() the sixth", x.stall(), -4);
        due("count(5) when full", x.count(5), 5);
        due("told(1) when full", x.told(1), 4);
        tape(x, "x");
        due("stall() with a fault when full", x.stall(), -4);
        due("count(5) when full", x.count(5), 6);
    }

    private static void stallFaults() {
        CHECK.part("promise 3, faults");
        String[] texts = {
            "", "x", "h", "heavy", "heavyx", "heavy ", "heavy  1", "heavy 1", "heavy 1 ", "heavy 1 s",
            "heavy 1 s=", "heavy 1 s=x", "heavy 1 s==1", "heavy 1 x=1", "heavy 00 s=1", "heavy 123 s=1",
            "heavy 1 s=1)", "heavy 1 (s=1", "heavy 1 (s=1;", "heavy 1 s=1&", "heavy 1 s=1||s=1",
            "heavy 1 !", "heavy 1 ()", "heavy 1 s=01", "heavy 1 s=100", "heavy 1 s=1 ", "heavy 1 s =1",
            "heavy 1;fee 2", "fee 1;", "fee 1;;", "fee 100", "fee", "fee x", "fee 1 s=1", "prize -1",
            "signs 3,fee 1", "sign 3", "Fee 1", " fee 1", "fee 1;heavy 1 d>5|", "heavy 1 !s=1!",
        };
        int[] faults = {
            0, 0, 1, 5, 5, 6, 6, 7, 8, 9,
            10, 10, 10, 8, 7, 8,
            11, 12, 12, 12, 12,
            9, 9, 11, 12, 11, 9,
            7, 6, 6, 6, 3, 4, 5, 6,
            7, 4, 0, 0, 18, 12,
        };
        due("texts", texts.length, faults.length);
        for (int i = 0; i < texts.length; i++) {
            due("stall() of " + texts[i], read(texts[i]), -10 - faults[i]);
        }
        String[] good = {
            "heavy 0 s=0", "heavy 99 d<99", "fee 0", "fee 99;prize 99;signs 99", "heavy 1 s=1|s=2&!g>2",
            "heavy 1 !(s=1|s=2)&!d=9", "heavy 1 ((((s=1))))", "heavy 1 (s=1)|(s=1)|(s=1)|(s=1)|(s=1)|(s=1)|(s=1)",
        };
        for (String text : good) {
            due("stall() of " + text, read(text), 0);
        }
        due("stall() of 100 bytes", read("heavy 1 s=1" + "|s=1".repeat(22) + "0"), 0);
        due("stall() of 100 bytes, too short", read("heavy 1 s=1" + "|s=1".repeat(22) + "|"), -110);
    }

    private static void stallDepths() {
        CHECK.part("promise 3, depths");
        due("five !", read("heavy 1 !!!!!s=1"), 0);
        due("six !", read("heavy 1 !!!!!!s=1"), -23);
        due("five (", read("heavy 1 (((((s=1)))))"), 0);
        due("six (", read("heavy 1 ((((((s=1))))))"), -23);
        due("both", read("heavy 1 !(!(!s=1))"), 0);
        due("both, six", read("heavy 1 !(!(!(s=1)))"), -23);
        due("! ended by &", read("heavy 1 !!!!!s=1&!!!!!s=1"), 0);
        due("! ended by |", read("heavy 1 (!!!!s=1|!!!!s=1)|!!!!!s=1"), 0);
        due("! ended by ), six", read("heavy 1 (!!!!s=1|!!!!!s=1)"), -31);
        due("( ended by )", read("heavy 1 ((((s=1)&(s=1))))|!!!!!s=1"), 0);
        due("! around ( ended by )", read("heavy 1 !(!(s=1)&!!!s=1)"), 0);
    }

    private static void stallClauses() {
        CHECK.part("promise 3, clauses");
        due("ten", read("fee 1;".repeat(9) + "fee 1"), 0);
        due("eleven", read("fee 1;".repeat(10) + "fee 1"), -69);
        due("ten and ;", read("fee 1;".repeat(10)), -69);
        due("nine and ;", read("fee 1;".repeat(9)), -64);
        RowFirst x = with("fee 3;fee 4;prize 5;prize 6;signs 3;signs 2");
        due("told(0), the last signs", x.told(0), 2);
        due("told(1), the last fee", x.told(1), 4);
        due("told(2), the last prize", x.told(2), 6);
        due("SIGNS by signs 2", with("signs 2").told(0), 2);
        due("SIGNS by signs 3", with("signs 3").told(0), 3);
        due("SIGNS by signs 0", with("signs 0").told(0), 2);
        due("SIGNS by signs 99", with("signs 99").told(0), 3);
    }

    private static void day() {
        CHECK.part("promise 4");
        RowFirst x = new RowFirst();
        due("day(9)", x.day(9), 0);
        due("day(10)", x.day(10), -2);
        due("day(-1)", x.day(-1), -2);
        due("day(HIGH)", x.day(HIGH), -2);
        due("day(0)", x.day(0), 9);
        due("day(3)", x.day(3), 0);
        due("told(3)", x.told(3), 3);
    }

    private static void told() {
        CHECK.part("promise 5");
        RowFirst x = with("signs 3;fee 0;prize 99;heavy 2 s=1");
        x.day(7);
        int[] whats = {0, 1, 2, 3, 4, 10, 11, 12};
        int[] wants = {3, 0, 99, 7, 5, 1, 3, 1};
        for (int i = 0; i < whats.length; i++) {
            due("told(" + whats[i] + ")", x.told(whats[i]), wants[i]);
        }
        for (int what : new int[] {-1, 5, 9, 13, LOW, HIGH}) {
            due("told(" + what + ")", x.told(what), -1);
        }
        due("told(12) of two signs", with("").told(12), -1);
        due("told(11) of two signs", with("").told(11), 1);
    }

    private static void weights(String stall, int day, int... wants) {
        RowFirst x = with(stall);
        x.day(day);
        int all = 0;
        for (int s = 0; s < wants.length; s++) {
            due("WEIGHT of " + s + " on day " + day + " by " + stall, x.told(10 + s), wants[s]);
            all += wants[s];
        }
        due("ALL by " + stall, x.told(4), all);
        due("told(0) by " + stall, x.told(0), wants.length);
    }

    private static void toldWeights() {
        CHECK.part("promise 5, weights");
        weights("heavy 1 s=1", 0, 1, 2);
        weights("heavy 0 s=1", 0, 1, 1);
        weights("heavy 1 s=1;heavy 1 s=1", 0, 1, 3);
        weights("heavy 2 s=1;heavy 2 s>0", 0, 1, 4);
        weights("heavy 99 s<1", 0, 4, 1);
        weights("heavy 2 s<2;signs 3", 0, 3, 3, 1);
        weights("heavy 2 g=3;signs 3", 0, 3, 3, 3);
        weights("heavy 2 g=3", 0, 1, 1);
        weights("heavy 2 g<3&s=0", 0, 3, 1);
        weights("heavy 2 d=4", 4, 3, 3);
        weights("heavy 2 d=4", 5, 1, 1);
        weights("heavy 2 d>4", 9, 3, 3);
        weights("heavy 2 d<4", 9, 1, 1);
        weights("heavy 2 d<10", 9, 3, 3);
        weights("heavy 1 s=0|s=1&d=1", 0, 2, 1);
        weights("heavy 1 (s=0|s=1)&d=1", 0, 1, 1);
        weights("heavy 1 (s=0|s=1)&d=1", 1, 2, 2);
        weights("heavy 1 !s=0", 0, 1, 2);
        weights("heavy 1 !!s=0", 0, 2, 1);
        weights("heavy 1 !s=0&!s=1;signs 3", 0, 1, 1, 2);
        weights("heavy 1 !(s=0|s=2);signs 3", 0, 1, 2, 1);
        weights("heavy 1 !s=0|s=0", 0, 2, 2);
    }

    private static void sign() {
        CHECK.part("promise 6");
        RowFirst x = new RowFirst();
        due("sign(-1) when empty", x.sign(-1), 0);
        for (int i = 0; i < 6; i++) {
            due("sign(" + i % 3 + ")", x.sign(i % 3), i + 1);
        }
        due("sign(0) the seventh", x.sign(0), -4);
        due("sign(3) when full", x.sign(3), -2);
        due("sign(-2)", x.sign(-2), -2);
        due("sign(LOW)", x.sign(LOW), -2);
        due("sign(HIGH)", x.sign(HIGH), -2);
        due("count(3)", x.count(3), 6);
        due("sign(-1) when full", x.sign(-1), 0);
        due("sign(2) again", x.sign(2), 1);
    }

    private static void row() {
        CHECK.part("promise 7");
        RowFirst x = new RowFirst();
        due("row() when empty", x.row(), -3);
        for (int i = 0; i < 6; i++) {
            x.sign(i % 3);
            due("row()", x.row(), i);
            due("count(3)", x.count(3), 0);
        }
        due("row() when empty and full", x.row(), -3);
        x.sign(1);
        due("row() when full", x.row(), -4);
        due("count(3) when full", x.count(3), 1);
        due("count(0)", x.count(0), 6);
    }

    private static void of() {
        CHECK.part("promise 8");
        RowFirst x = with("", "012210", "2");
        for (int k = 0; k < 6; k++) {
            due("of(0, " + k + ")", x.of(0, k), "012210".charAt(k) - '0');
        }
        due("of(0, -1)", x.of(0, -1), 6);
        due("of(1, -1)", x.of(1, -1), 1);
        due("of(1, 0)", x.of(1, 0), 2);
        int[][] wrong = {{0, 6}, {0, -2}, {1, 1}, {2, 0}, {-1, 0}, {0, HIGH}, {0, LOW}, {HIGH, 0}, {LOW, -1}};
        for (int[] call : wrong) {
            due("of(" + call[0] + ", " + call[1] + ")", x.of(call[0], call[1]), -1);
        }
    }

    private static void player() {
        CHECK.part("promise 9");
        RowFirst x = new RowFirst();
        due("player(7, 0)", x.player(7, 0), -1);
        due("player(-1, 10)", x.player(-1, 10), -1);
        due("player(0, -1)", x.player(0, -1), -2);
        due("player(0, 10)", x.player(0, 10), -2);
        due("player(6, 9)", x.player(6, 9), 0);
        due("player(0, 0)", x.player(0, 0), 1);
        due("player(3, 5)", x.player(3, 5), 2);
        due("player(5, 5)", x.player(5, 5), 3);
        due("player(1, 1) the fifth", x.player(1, 1), -4);
        due("player(7, 1) when full", x.player(7, 1), -1);
        due("player(1, 10) when full", x.player(1, 10), -2);
        due("count(1)", x.count(1), 4);
        due("as(0, 0)", x.as(0, 0), 9);
    }

    private static void own() {
        CHECK.part("promise 10");
        RowFirst x = with("", "001");
        x.player(6, 0);
        x.player(3, 0);
        strip(x, "210");
        due("own(2)", x.own(2), -1);
        due("own(-1)", x.own(-1), -1);
        due("own(1)", x.own(1), -3);
        due("count(3) behind refusals", x.count(3), 3);
        due("own(0)", x.own(0), 3);
        due("count(3)", x.count(3), 0);
        due("pick(0, 0, -1)", x.pick(0, 0, -1), 3);
        due("pick(0, 0, 0)", x.pick(0, 0, 0), 2);
        strip(x, "2");
        due("own(0) of one sign", x.own(0), 1);
        due("pick(0, 0, 0)", x.pick(0, 0, 0), 2);
        due("pick(0, 0, -1)", x.pick(0, 0, -1), 1);
        due("own(0) of an empty strip", x.own(0), 0);
        due("pick(0, 0, 2) without an own row", x.pick(0, 0, 2), 0);
        due("count(0)", x.count(0), 1);
    }

    private static void waits() {
        CHECK.part("promise 11");
        RowFirst x = with("", "000", "001", "010", "011", "000000", "02");
        int[] wants = {14, 8, 10, 8, 126};
        for (int row = 0; row < wants.length; row++) {
            fraction("waits(" + row + ")", x.waits(row, 0), x.waits(row, 1), wants[row], 1);
        }
        due("waits(5, 0), not lawful", x.waits(5, 0), NO);
        due("waits(6, 0)", x.waits(6, 0), NO);
        due("waits(-1, 0)", x.waits(-1, 0), NO);
        due("waits(0, 2)", x.waits(0, 2), NO);
        due("waits(0, -1)", x.waits(0, -1), NO);
        RowFirst y = with("heavy 1 s=0;signs 3", "00", "012", "202020");
        fraction("waits(0)", y.waits(0, 0), y.waits(0, 1), 6, 1);
        fraction("waits(1)", y.waits(1, 0), y.waits(1, 1), 32, 1);
        fraction("waits(2)", y.waits(2, 0), y.waits(2, 1), 8 * 8 * 8 + 8 * 8 + 8, 1);
        RowFirst z = with("heavy 3 s=0", "000000", "111111");
        fraction("waits(0)", z.waits(0, 0), z.waits(0, 1), 57645, 4096);
        fraction("waits(1)", z.waits(1, 0), z.waits(1, 1), 19530, 1);
    }

    private static void odds() {
        CHECK.part("promise 12");
        RowFirst x = with("", "000", "100", "001", "011", "010", "0");
        dueOdds(x, 0, 1, 1, 8);
        dueOdds(x, 1, 0, 7, 8);
        dueOdds(x, 2, 3, 2, 3);
        dueOdds(x, 2, 4, 2, 3);
        dueOdds(x, 1, 2, 3, 4);
        dueOdds(x, 0, 4, 2, 5);
        due("odds(0, 0, 0)", x.odds(0, 0, 0), NO);
        due("odds(0, 5, 0), one within", x.odds(0, 5, 0), NO);
        due("odds(5, 0, 0), one within", x.odds(5, 0, 0), NO);
        due("odds(0, 6, 0)", x.odds(0, 6, 0), NO);
        due("odds(-1, 1, 0)", x.odds(-1, 1, 0), NO);
        due("odds(0, 1, 2)", x.odds(0, 1, 2), NO);
        due("odds(0, 1, -1)", x.odds(0, 1, -1), NO);
        RowFirst y = with("", "11", "2", "0", "00", "00");
        due("odds(0, 1, 0), not lawful", y.odds(0, 1, 0), NO);
        due("odds(1, 0, 0), not lawful", y.odds(1, 0, 0), NO);
        due("odds(3, 4, 0), the same", y.odds(3, 4, 0), NO);
        dueOdds(y, 0, 2, 1, 4);
        tape(y, "signs 3;heavy 2 s=2");
        due("stall()", y.stall(), 0);
        dueOdds(y, 1, 2, 3, 4);
        dueOdds(y, 2, 1, 1, 4);
    }

    private static void lasts() {
        CHECK.part("promise 13");
        RowFirst x = with("", "000", "100", "0", "1", "2");
        fraction("lasts(0, 1)", x.lasts(0, 1, 0), x.lasts(0, 1, 1), 7, 1);
        fraction("lasts(1, 0)", x.lasts(1, 0, 0), x.lasts(1, 0, 1), 7, 1);
        fraction("lasts(2, 3)", x.lasts(2, 3, 0), x.lasts(2, 3, 1), 1, 1);
        due("lasts(0, 2, 0), not apart", x.lasts(0, 2, 0), NO);
        due("lasts(0, 4, 0), not lawful", x.lasts(0, 4, 0), NO);
        due("lasts(0, 5, 0)", x.lasts(0, 5, 0), NO);
        due("lasts(0, 1, 2)", x.lasts(0, 1, 2), NO);
        RowFirst y = with("", "001", "100");
        fraction("lasts(0, 1)", y.lasts(0, 1, 0), y.lasts(0, 1, 1), 13, 2);
    }

    private static void half() {
        CHECK.part("promise 14");
        RowFirst x = with("", "001", "100", "111", "1");
        dueHalf(x, "", 0, 1, 1, 4);
        dueHalf(x, "0", 0, 1, 1, 2);
        dueHalf(x, "00", 0, 1, 1, 1);
        dueHalf(x, "00", 1, 0, 0, 1);
        dueHalf(x, "10", 1, 0, 1, 1);
        dueHalf(x, "01", 1, 0, 1, 1);
        dueHalf(x, "1010101", 0, 1, 0, 1);
        dueHalf(x, "010101010101010101010110", 0, 1, 0, 1);
        tosses(x, "0010");
        due("half(0, 1, 0), the one has come", x.half(0, 1, 0), NO);
        due("half(1, 0, 0), the other has come", x.half(1, 0, 0), NO);
        fraction("half(1, 2)", x.half(1, 2, 0), x.half(1, 2, 1), 4, 5);
        tosses(x, "02");
        due("half(0, 1, 0), 2 is none of the SIGNS", x.half(0, 1, 0), NO);
        due("odds(0, 1, 0) all the same", x.odds(0, 1, 0), 1);
        tosses(x, "");
        due("half(0, 3, 0), not apart", x.half(0, 3, 0), NO);
        due("half(0, 9, 0)", x.half(0, 9, 0), NO);
        due("half(0, 1, 2)", x.half(0, 1, 2), NO);
        tape(x, "signs 3");
        due("stall()", x.stall(), 0);
        dueHalf(x, "2", 0, 1, x.odds(0, 1, 0), x.odds(0, 1, 1));
    }

    private static void worth() {
        CHECK.part("promise 15");
        RowFirst x = with("", "000", "100", "0", "2");
        fraction("worth(1, 0)", x.worth(1, 0, 0), x.worth(1, 0, 1), 7, 4);
        fraction("worth(0, 1)", x.worth(0, 1, 0), x.worth(0, 1, 1), -23, 4);
        due("worth(0, 2, 0), not apart", x.worth(0, 2, 0), NO);
        due("worth(0, 3, 0), not lawful", x.worth(0, 3, 0), NO);
        due("worth(4, 0, 0)", x.worth(4, 0, 0), NO);
        due("worth(0, 1, 2)", x.worth(0, 1, 2), NO);
        tape(x, "fee 0;prize 8");
        due("stall()", x.stall(), 0);
        fraction("worth(1, 0)", x.worth(1, 0, 0), x.worth(1, 0, 1), 7, 1);
        tape(x, "fee 1;prize 8");
        due("stall()", x.stall(), 1);
        fraction("worth(1, 0)", x.worth(1, 0, 0), x.worth(1, 0, 1), 0, 1);
        tape(x, "fee 99;prize 0");
        due("stall()", x.stall(), 2);
        fraction("worth(1, 0)", x.worth(1, 0, 0), x.worth(1, 0, 1), -693, 1);
    }

    private static void dueBest(RowFirst x, int row, int n, String want) {
        for (int k = 0; k < 4; k++) {
            due("best(" + row + ", " + n + ", " + k + ")", x.best(row, n, k),
                k < want.length() ? want.charAt(k) - '0' : -1);
        }
    }

    private static void best() {
        CHECK.part("promise 16");
        RowFirst x = with("", "000", "001", "010", "011", "2", "0");
        dueBest(x, 0, 3, "100");
        dueBest(x, 1, 3, "100");
        dueBest(x, 2, 3, "001");
        dueBest(x, 3, 3, "001");
        dueBest(x, 0, 1, "1");
        dueBest(x, 1, 1, "");
        dueBest(x, 5, 1, "1");
        dueBest(x, 5, 4, "1111");
        due("best(6, 0, 0)", x.best(6, 0, 0), -1);
        due("best(-1, 3, 0)", x.best(-1, 3, 0), -1);
        due("best(0, 0, 4)", x.best(0, 0, 4), -1);
        due("best(0, 0, -1)", x.best(0, 0, -1), -1);
        due("best(0, 0, 0)", x.best(0, 0, 0), -2);
        due("best(0, 5, 3)", x.best(0, 5, 3), -2);
        due("best(4, 5, 0)", x.best(4, 5, 0), -2);
        due("best(4, 1, 0), not lawful", x.best(4, 1, 0), -3);
        due("best(4, 1, 3), not lawful ahead of k", x.best(4, 1, 3), -3);
        RowFirst y = with("signs 3;heavy 2 s=2", "2", "0");
        dueBest(y, 0, 1, "0");
        dueBest(y, 1, 1, "2");
    }

    private static void ring() {
        CHECK.part("promise 17");
        RowFirst x = with("", "000", "0110", "1100", "0", "2", "111");
        due("ring(0, 1, 2)", x.ring(0, 1, 2), 1);
        due("ring(1, 2, 0)", x.ring(1, 2, 0), 1);
        due("ring(2, 0, 1)", x.ring(2, 0, 1), 1);
        due("ring(0, 2, 1)", x.ring(0, 2, 1), 0);
        due("ring(0, 1, 3), not apart", x.ring(0, 1, 3), 0);
        due("ring(0, 0, 0)", x.ring(0, 0, 0), 0);
        due("ring(0, 5, 1), a half", x.ring(0, 5, 1), 0);
        due("ring(0, 1, 4), not lawful", x.ring(0, 1, 4), -3);
        due("ring(4, 0, 0), not lawful", x.ring(4, 0, 0), -3);
        due("ring(0, 4, 1), not lawful", x.ring(0, 4, 1), -3);
        due("ring(0, 4, 6)", x.ring(0, 4, 6), -1);
        due("ring(6, 4, 0)", x.ring(6, 4, 0), -1);
        due("ring(0, -1, 4)", x.ring(0, -1, 4), -1);
        RowFirst y = with("", "000", "001", "010", "0110", "1100");
        dueOdds(y, 0, 1, 1, 2);
        due("ring(0, 1, 2), a half", y.ring(0, 1, 2), 0);
        due("ring(1, 2, 0), a half", y.ring(1, 2, 0), 0);
        due("ring(2, 0, 1), a half", y.ring(2, 0, 1), 0);
        due("ring(4, 0, 3)", y.ring(4, 0, 3), 1);
        due("ring(4, 3, 0), all below a half", y.ring(4, 3, 0), 0);
        due("ring(1, 3, 4), the last one not", y.ring(1, 3, 4), 0);
    }

    private static void duePick(RowFirst x, int player, int row, String want) {
        due("pick(" + player + ", " + row + ", -1)", x.pick(player, row, -1), want.length());
        for (int k = 0; k < 6; k++) {
            due("pick(" + player + ", " + row + ", " + k + ")", x.pick(player, row, k),
                k < want.length() ? want.charAt(k) - '0' : -1);
        }
    }

    private static void pick() {
        CHECK.part("promise 18");
        RowFirst x = with("", "001", "010111", "1");
        x.player(0, 9);
        x.player(1, 2);
        x.player(2, 7);
        x.player(3, 4);
        duePick(x, 0, 0, "00");
        duePick(x, 1, 0, "001");
        duePick(x, 2, 0, "0000");
        duePick(x, 3, 0, "000");
        duePick(x, 3, 1, "010110");
        duePick(x, 3, 2, "0");
        RowFirst y = with("signs 3;heavy 1 s=1", "001", "012", "0", "02");
        y.player(4, 2);
        y.player(4, 0);
        y.player(6, 0);
        y.player(1, 5);
        duePick(y, 0, 0, "100");
        duePick(y, 1, 0, "2");
        duePick(y, 1, 1, "1");
        duePick(y, 1, 2, "1");
        duePick(y, 2, 0, "002");
        duePick(y, 2, 1, "010");
        duePick(y, 3, 0, "11");
        strip(y, "222222");
        due("own(2)", y.own(2), 6);
        duePick(y, 2, 0, "222222");
        tape(y, "signs 2");
        due("stall()", y.stall(), 1);
        duePick(y, 2, 0, "222222");
        RowFirst z = with("heavy 3 s=1", "01", "0", "10");
        z.player(4, 0);
        z.player(1, 0);
        z.player(1, 1);
        z.player(2, 1);
        duePick(z, 0, 0, "1");
        duePick(z, 0, 1, "1");
        duePick(z, 1, 0, "1");
        duePick(z, 2, 0, "11");
        duePick(z, 3, 0, "00");
    }

    private static void pickTeam() {
        CHECK.part("promise 18, TEAM");
        RowFirst x = with("", "111", "01", "0", "001");
        x.player(5, 2);
        x.player(5, 0);
        x.player(5, 1);
        duePick(x, 0, 0, "000");
        duePick(x, 1, 1, "0");
        duePick(x, 1, 2, "1");
        duePick(x, 2, 3, "11");
        duePick(x, 2, 2, "00");
        duePick(x, 0, 3, "000");
    }

    private static void pickRefused() {
        CHECK.part("promise 18, refused");
        RowFirst x = with("", "001", "2");
        x.player(0, 0);
        due("pick(1, 0, 0)", x.pick(1, 0, 0), -1);
        due("pick(-1, 1, 0)", x.pick(-1, 1, 0), -1);
        due("pick(0, 2, 0)", x.pick(0, 2, 0), -1);
        due("pick(0, 1, 6)", x.pick(0, 1, 6), -1);
        due("pick(0, 1, -2)", x.pick(0, 1, -2), -1);
        due("pick(0, 1, 0), not lawful", x.pick(0, 1, 0), -3);
        due("pick(0, 1, 5), not lawful ahead of k", x.pick(0, 1, 5), -3);
        due("pick(0, 0, 1), too short", x.pick(0, 0, 1), -1);
    }

    private static void fair() {
        CHECK.part("promise 19");
        RowFirst x = with("", "001", "100", "0", "1", "2", "11");
        due("fair(0, 1)", x.fair(0, 1), 2);
        due("fair(2, 3)", x.fair(2, 3), 1);
        due("fair(3, 2)", x.fair(3, 2), 1);
        due("fair(2, 5)", x.fair(2, 5), 1);
        due("fair(0, 2), not apart", x.fair(0, 2), -3);
        due("fair(0, 0)", x.fair(0, 0), -3);
        due("fair(0, 4), not lawful", x.fair(0, 4), -3);
        due("fair(4, 0), not lawful", x.fair(4, 0), -3);
        due("fair(4, 6)", x.fair(4, 6), -1);
        due("fair(-1, 0)", x.fair(-1, 0), -1);
        RowFirst y = with("heavy 9 s=1", "000000", "1", "0");
        due("fair(0, 1)", y.fair(0, 1), 9);
        due("fair(2, 1)", y.fair(2, 1), 4);
        due("told(10) is left", y.told(10), 1);
        RowFirst z = with("signs 3;heavy 3 s>0", "12", "0", "1", "2");
        due("fair(0, 1)", z.fair(0, 1), 2);
        due("fair(2, 3), of several the least", z.fair(2, 3), 1);
    }

    private static void dueWithin(RowFirst x, int row, int n, long top, long low) {
        fraction("within(" + row + ", " + n + ")", x.within(row, n, 0), x.within(row, n, 1), top, low);
    }

    private static void within() {
        CHECK.part("promise 20");
        RowFirst x = with("", "00", "2", "01");
        dueWithin(x, 0, 0, 0, 1);
        dueWithin(x, 0, 1, 0, 1);
        dueWithin(x, 0, 2, 1, 4);
        dueWithin(x, 2, 2, 1, 4);
        dueWithin(x, 0, 15, 16383, 32768);
        due("within(1, 3, 0), not lawful", x.within(1, 3, 0), NO);
        due("within(3, 3, 0)", x.within(3, 3, 0), NO);
        due("within(-1, 3, 0)", x.within(-1, 3, 0), NO);
        due("within(0, 16, 0)", x.within(0, 16, 0), NO);
        due("within(0, -1, 0)", x.within(0, -1, 0), NO);
        due("within(0, 3, 2)", x.within(0, 3, 2), NO);
        RowFirst y = with("", "10", "0", "10");
        dueWithin(y, 0, 2, 1, 4);
        dueWithin(y, 1, 2, 1, 2);
        dueWithin(y, 2, 15, 0, 1);
        RowFirst z = with("signs 3;heavy 1 s=2", "2", "12");
        dueWithin(z, 0, 1, 1, 2);
        dueWithin(z, 0, 2, 3, 4);
        dueWithin(z, 1, 15, 0, 1);
        RowFirst v = with("", "0010", "11", "01");
        dueWithin(v, 0, 15, 0, 1);
        dueWithin(v, 2, 3, 1, 2);
        dueWithin(v, 1, 2, 1, 4);
        RowFirst six = with("", "000000", "111111", "010101", "101010", "001100", "110011");
        for (int row = 0; row < 6; row++) {
            dueWithin(six, row, 6, 1, 64);
        }
        due("free(6) beside six", six.free(6), 58);
        due("free(7) beside six", six.free(7), 108);
        RowFirst w = with("signs 3;heavy 3 s<3", "000000");
        dueWithin(w, 0, 15, 15299, 1594323);
    }

    private static void often() {
        CHECK.part("promise 21");
        RowFirst x = with("", "00", "2", "000000");
        fraction("often(0, 1)", x.often(0, 1, 0), x.often(0, 1, 1), 0, 1);
        fraction("often(0, 0)", x.often(0, 0, 0), x.often(0, 0, 1), 0, 1);
        fraction("often(0, 2)", x.often(0, 2, 0), x.often(0, 2, 1), 1, 4);
        fraction("often(0, 60)", x.often(0, 60, 0), x.often(0, 60, 1), 59, 4);
        fraction("often(2, 60)", x.often(2, 60, 0), x.often(2, 60, 1), 55, 64);
        due("often(1, 3, 0), not lawful", x.often(1, 3, 0), NO);
        due("often(3, 3, 0)", x.often(3, 3, 0), NO);
        due("often(0, 61, 0)", x.often(0, 61, 0), NO);
        due("often(0, -1, 0)", x.often(0, -1, 0), NO);
        due("often(0, 3, 2)", x.often(0, 3, 2), NO);
        RowFirst y = with("heavy 2 s=1", "11");
        fraction("often(0, 9)", y.often(0, 9, 0), y.often(0, 9, 1), 9, 2);
    }

    private static void free() {
        CHECK.part("promise 22");
        RowFirst x = new RowFirst();
        due("free(0)", x.free(0), 1);
        due("free(30)", x.free(30), 1L << 30);
        due("free(31)", x.free(31), NO);
        due("free(-1)", x.free(-1), NO);
        due("free(LOW)", x.free(LOW), NO);
        strip(x, "2");
        x.row();
        due("free(30), none lawful", x.free(30), 1L << 30);
        strip(x, "11");
        x.row();
        due("free(1)", x.free(1), 2);
        due("free(2)", x.free(2), 3);
        due("free(10)", x.free(10), 144);
        due("free(30)", x.free(30), 2178309);
        strip(x, "00");
        x.row();
        due("free(9)", x.free(9), 2);
        tape(x, "signs 3;heavy 3 s=1");
        due("stall()", x.stall(), 0);
        due("free(9) of three signs", x.free(9), 2);
        due("free(30) of three signs", with("signs 3").free(30), 205891132094649L);
    }

    private static void toss() {
        CHECK.part("promise 23");
        RowFirst x = new RowFirst();
        due("toss(-1) when empty", x.toss(-1), 0);
        for (int i = 1; i <= 24; i++) {
            due("toss(" + i % 3 + ")", x.toss(i % 3), i);
        }
        due("toss(0) the 25th", x.toss(0), -4);
        due("toss(3) when full", x.toss(3), -2);
        due("toss(-2)", x.toss(-2), -2);
        due("toss(LOW)", x.toss(LOW), -2);
        due("toss(HIGH)", x.toss(HIGH), -2);
        due("count(4)", x.count(4), 24);
        due("toss(-1) when full", x.toss(-1), 0);
        due("count(4)", x.count(4), 0);
    }

    private static void came() {
        CHECK.part("promise 24");
        RowFirst x = with("", "00", "2", "0120");
        tosses(x, "1000");
        due("came(0)", x.came(0), 3);
        due("came(1)", x.came(1), -5);
        due("came(2)", x.came(2), -5);
        due("came(3)", x.came(3), -1);
        due("came(-1)", x.came(-1), -1);
        tosses(x, "111111111111111111110120");
        due("came(2)", x.came(2), 24);
        due("came(1), not lawful", x.came(1), 23);
        due("came(0)", x.came(0), -5);
        tosses(x, "");
        due("came(0) of none", x.came(0), -5);
    }

    private static void ends() {
        CHECK.part("promise 25");
        RowFirst x = with("", "00", "2", "010101");
        tosses(x, "000000000000000000000000");
        due("ends(0)", x.ends(0), 23);
        due("ends(1)", x.ends(1), 0);
        due("ends(3)", x.ends(3), -1);
        due("ends(-1)", x.ends(-1), -1);
        tosses(x, "0101010122");
        due("ends(2)", x.ends(2), 2);
        tosses(x, "2");
        due("ends(1) of one throw", x.ends(1), 1);
        tosses(x, "0101010122");
        due("ends(1), not lawful", x.ends(1), 2);
        tosses(x, "");
        due("ends(0) of none", x.ends(0), 0);
    }

    private static void ahead() {
        CHECK.part("promise 26");
        RowFirst x = with("", "100", "00", "2", "00");
        due("ahead() of none", x.ahead(), -5);
        tosses(x, "101");
        due("ahead()", x.ahead(), -5);
        tosses(x, "100");
        due("ahead(), of several the least", x.ahead(), 0);
        tosses(x, "000");
        due("ahead()", x.ahead(), 1);
        tosses(x, "2000");
        due("ahead(), not lawful", x.ahead(), 2);
        due("ahead() without rows", new RowFirst().ahead(), -5);
    }

    private static void dueAct(RowFirst x, String call, int got, int want, int... bodies) {
        due(call, got, want);
        due(call + ": bodies", x.count(6), bodies.length);
        for (int i = 0; i < bodies.length; i++) {
            due(call + ": trace(" + i + ")", x.trace(i), bodies[i]);
        }
        due(call + ": trace behind", x.trace(bodies.length), -1);
    }

    private static void act() {
        CHECK.part("promise 27");
        RowFirst x = new RowFirst();
        x.player(0, 5);
        x.player(1, 4);
        x.player(2, 3);
        x.player(3, 2);
        dueAct(x, "PICKER picks", x.act(0, 0, 7), 7, 1);
        dueAct(x, "PICKER pays", x.act(0, 1, 7), 2, 2, 1);
        dueAct(x, "PICKER tells", x.act(0, 2, 7), 4, 3, 2, 1);
        dueAct(x, "FIRST picks", x.act(1, 0, 7), 22, 11, 1);
        dueAct(x, "FIRST pays", x.act(1, 1, 7), 18, 2, 11, 1);
        dueAct(x, "FIRST tells", x.act(1, 2, 7), 36, 3, 2, 11, 1);
        dueAct(x, "BUYING picks", x.act(2, 0, 7), 9, 1);
        dueAct(x, "BUYING pays", x.act(2, 1, 7), -6, 21, 2, 1);
        dueAct(x, "BUYING tells", x.act(2, 2, 7), -12, 3, 21, 2, 1);
        dueAct(x, "STOPPING picks", x.act(3, 0, 7), 10, 1);
        dueAct(x, "STOPPING pays", x.act(3, 1, 7), 8, 2, 1);
        dueAct(x, "STOPPING tells", x.act(3, 2, 7), 16 ^ 7, 31, 3, 2, 1);
        dueAct(x, "wrapping picks", x.act(1, 0, HIGH), HIGH - 1, 11, 1);
        dueAct(x, "wrapping tells", x.act(0, 2, LOW), -10, 3, 2, 1);
        dueAct(x, "no such player", x.act(4, 0, 7), 0);
        x.act(0, 2, 7);
        dueAct(x, "no such player", x.act(-1, 0, 7), 0);
        x.act(0, 2, 7);
        dueAct(x, "no such act", x.act(0, 3, 7), 0);
        x.act(0, 2, 7);
        dueAct(x, "no such act", x.act(0, -1, 7), 0);
        RowFirst y = new RowFirst();
        y.player(0, 0);
        y.player(4, 5);
        y.player(5, 4);
        y.player(6, 3);
        dueAct(y, "SECOND picks", y.act(1, 0, 7), 22, 11, 1);
        dueAct(y, "SECOND pays", y.act(1, 1, 7), 17, 2, 11, 1);
        dueAct(y, "SECOND tells", y.act(1, 2, 7), (19 - 5) * 2 + 7, 41, 3, 2, 11, 1, 11, 1);
        dueAct(y, "TEAM picks", y.act(2, 0, 7), 9 ^ 2, 51, 1);
        dueAct(y, "TEAM pays", y.act(2, 1, 7), -7, 21, 2, 51, 1);
        dueAct(y, "TEAM tells", y.act(2, 2, 7), -14, 3, 21, 2, 51, 1);
        dueAct(y, "TOLD picks", y.act(3, 0, 7), 10, 1);
        dueAct(y, "TOLD pays", y.act(3, 1, 7), 10, 61, 2, 1);
        dueAct(y, "TOLD tells", y.act(3, 2, 7), 20 ^ 7, 31, 3, 61, 2, 1);
    }

    private static void trace() {
        CHECK.part("promise 28");
        RowFirst x = new RowFirst();
        x.player(3, 0);
        x.act(0, 2, 1);
        due("trace(0)", x.trace(0), 31);
        due("trace(3)", x.trace(3), 1);
        for (int i : new int[] {-1, 4, 19, 20, LOW, HIGH}) {
            due("trace(" + i + ")", x.trace(i), -1);
        }
        x.act(0, 0, 1);
        due("trace(0) of the latest", x.trace(0), 1);
        due("trace(1) of the latest", x.trace(1), -1);
    }

    private static void as() {
        CHECK.part("promise 29");
        int[][] above = {{0}, {0, 1}, {0, 2}, {0, 3}, {0, 1, 4}, {0, 2, 5}, {0, 3, 6}};
        for (int kind = 0; kind < 7; kind++) {
            RowFirst x = new RowFirst();
            x.player(kind, 9 - kind);
            for (int k = 0; k < 7; k++) {
                boolean is = false;
                for (int one : above[kind]) {
                    is |= one == k;
                }
                due("as(0, " + k + ") of KIND " + kind, x.as(0, k), is ? 9 - kind : -6);
            }
            due("as(0, 7)", x.as(0, 7), -1);
            due("as(0, -1)", x.as(0, -1), -1);
            due("as(1, 0)", x.as(1, 0), -1);
            due("as(-1, 0)", x.as(-1, 0), -1);
        }
    }

    private static void image() {
        CHECK.part("promise 30");
        RowFirst x = with("", "001", "10");
        due("image()", x.image(), 2);
        strip(x, "1");
        x.row();
        due("image() again", x.image(), 3);
        strip(x, "0");
        x.row();
        due("undo() to the latest", x.undo(), 3);
        due("image() of none", new RowFirst().image(), 0);
    }

    private static void undo() {
        CHECK.part("promise 31");
        RowFirst x = with("fee 5", "001");
        due("undo() without", x.undo(), -3);
        x.day(4);
        strip(x, "12");
        tosses(x, "0122");
        tape(x, "fee 6");
        x.player(6, 2);
        x.player(0, 3);
        due("image()", x.image(), 1);
        due("stall()", x.stall(), 1);
        x.day(5);
        due("own(0)", x.own(0), 2);
        strip(x, "2222");
        x.row();
        x.toss(-1);
        tape(x, "xyz");
        x.player(5, 7);
        x.act(0, 2, 1);
        for (int again = 0; again < 2; again++) {
            due("undo()", x.undo(), 1);
            int[] counts = {1, 2, 1, 2, 4, 5, again == 0 ? 5 : 0};
            for (int what = 0; what < counts.length; what++) {
                due("count(" + what + ")", x.count(what), counts[what]);
            }
            due("told(1)", x.told(1), 5);
            due("told(3)", x.told(3), 4);
            due("of(1, -1)", x.of(1, -1), -1);
            due("pick(0, 0, 2), no own row", x.pick(0, 0, 2), 0);
            due("came(0)", x.came(0), -5);
            due("as(1, 0)", x.as(1, 0), 3);
            due("as(2, 0)", x.as(2, 0), -1);
            due("trace(0)", x.trace(0), again == 0 ? 31 : -1);
            due("row()", x.row(), 1);
            due("of(1, 0)", x.of(1, 0), 1);
            due("of(1, 1)", x.of(1, 1), 2);
            due("stall()", x.stall(), 1);
            due("told(1)", x.told(1), 6);
            x.act(9, 0, 0);
        }
        RowFirst y = with("", "001");
        y.player(6, 0);
        strip(y, "111");
        y.own(0);
        y.image();
        y.own(0);
        y.undo();
        due("pick(0, 0, 0), the own row is back", y.pick(0, 0, 0), 1);
    }

    private static void count() {
        CHECK.part("promise 32");
        RowFirst x = with("fee 1", "0", "1");
        x.player(0, 0);
        x.player(0, 0);
        x.player(0, 0);
        strip(x, "0120");
        tosses(x, "01201");
        tape(x, "sixsix");
        x.act(2, 2, 0);
        int[] counts = {2, 3, 1, 4, 5, 6, 3};
        for (int what = 0; what < counts.length; what++) {
            due("count(" + what + ")", x.count(what), counts[what]);
        }
        for (int what : new int[] {-1, 7, LOW, HIGH}) {
            due("count(" + what + ")", x.count(what), -1);
        }
    }
}
