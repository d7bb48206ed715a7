import java.util.Random;

/** Runs of drawn calls (always the same ones): the class against the model. */
public final class ModelTest {
    private static final int RUNS = 400;
    private static final int CALLS = 512;
    private static final int[] ODD = {-1, -2, -7, 6, 7, 10, 16, 61, 99, 128, Integer.MIN_VALUE, Integer.MAX_VALUE};

    private final Check check = new Check();
    private Random random;
    private RowFirst real;
    private Model model;
    private int calls;

    public static void main(String[] args) {
        ModelTest test = new ModelTest();
        for (int run = 0; run < RUNS && test.check.wrong() == 0; run++) {
            test.run(run);
        }
        test.check.finish();
    }

    private void run(int seed) {
        random = new Random(seed);
        check.part("run " + seed);
        real = new RowFirst();
        model = new Model();
        calls = 0;
        if (random.nextInt(3) > 0) {
            tape();
        }
        while (calls < CALLS) {
            step(random.nextInt(30));
        }
    }

    private void due(String call, long got, long want) {
        calls++;
        // What later calls answer is free.
        if (calls <= CALLS) {
            check.due("call " + calls + ": " + call, got, want);
        }
    }

    /** Below n as a rule, now and then a number that is none. */
    private int below(int n) {
        return random.nextInt(25) == 0 ? ODD[random.nextInt(ODD.length)] : random.nextInt(n);
    }

    private void step(int what) {
        if (what < 3) {
            strip();
        } else if (what < 5) {
            throwSome();
        } else if (what == 5) {
            tape();
        } else if (what < 8) {
            change();
        } else if (what < 16) {
            odds();
        } else if (what < 22) {
            choose();
        } else if (what < 26) {
            throwsAsked();
        } else {
            rest();
        }
    }

    private void strip() {
        int signs = random.nextInt(5) == 0 ? 3 : model.told(0);
        int n = 1 + random.nextInt(random.nextInt(4) == 0 ? 7 : 4);
        for (int i = 0; i < n; i++) {
            int s = random.nextInt(40) == 0 ? below(3) : random.nextInt(signs);
            due("sign(" + s + ")", real.sign(s), model.sign(s));
        }
        int then = random.nextInt(10);
        if (then < 8) {
            due("row()", real.row(), model.row());
        } else if (then == 8) {
            int player = below(4);
            due("own(" + player + ")", real.own(player), model.own(player));
        }
    }

    private void throwSome() {
        if (random.nextInt(4) == 0) {
            due("toss(-1)", real.toss(-1), model.toss(-1));
        }
        int signs = random.nextInt(8) == 0 ? 3 : model.told(0);
        int n = random.nextInt(5);
        for (int i = 0; i < n; i++) {
            int s = random.nextInt(60) == 0 ? below(3) : random.nextInt(signs);
            due("toss(" + s + ")", real.toss(s), model.toss(s));
        }
    }

    private void tape() {
        String text = stallText();
        if (random.nextInt(3) == 0) {
            int at = random.nextInt(text.length() + 1);
            String any = "hsfp !()|&sgd<=>0123456789;x\u0000\u007f";
            char c = any.charAt(random.nextInt(any.length()));
            int to = Math.min(text.length(), at + random.nextInt(2));
            text = text.substring(0, at) + c + text.substring(to);
        } else if (random.nextInt(6) == 0) {
            text = text.substring(0, random.nextInt(text.length() + 1));
        }
        for (char c : text.toCharArray()) {
            due("feed(" + (int) c + ")", real.feed(c), model.feed(c));
        }
        if (random.nextInt(8) == 0) {
            int odd = below(128);
            due("feed(" + odd + ")", real.feed(odd), model.feed(odd));
        }
        if (random.nextInt(10) > 0) {
            due("stall() of " + text, real.stall(), model.stall());
        }
    }

    private String stallText() {
        StringBuilder text = new StringBuilder();
        int clauses = random.nextInt(12) == 0 ? 11 : 1 + random.nextInt(4);
        for (int i = 0; i < clauses; i++) {
            text.append(i == 0 ? "" : ";");
            int what = clauses > 8 ? 2 : random.nextInt(6);
            if (what == 0) {
                text.append("signs ").append(number(5));
            } else if (what == 1) {
                text.append("prize ").append(number(100));
            } else if (what == 2) {
                text.append("fee ").append(number(100));
            } else {
                text.append("heavy ").append(number(5)).append(' ').append(e(0));
            }
        }
        return text.toString();
    }

    private int number(int n) {
        return random.nextInt(8) == 0 ? random.nextInt(100) : random.nextInt(n);
    }

    private String e(int deep) {
        StringBuilder text = new StringBuilder(f(deep));
        while (random.nextInt(3) == 0) {
            text.append(random.nextBoolean() ? '|' : '&').append(f(deep));
        }
        return text.toString();
    }

    private String f(int deep) {
        int what = random.nextInt(6);
        if (deep < 6 && what == 0) {
            return "!" + f(deep + 1);
        }
        if (deep < 6 && what == 1) {
            return "(" + e(deep + 1) + ")";
        }
        return "sssgd".charAt(random.nextInt(5)) + "" + "<=>".charAt(random.nextInt(3)) + number(5);
    }

    private void change() {
        int what = random.nextInt(6);
        if (what < 2) {
            int n = below(10);
            due("day(" + n + ")", real.day(n), model.day(n));
        } else if (what < 4) {
            int kind = below(7);
            int v = below(10);
            due("player(" + kind + ", " + v + ")", real.player(kind, v), model.player(kind, v));
        } else if (what == 4 && random.nextInt(2) == 0) {
            due("image()", real.image(), model.image());
        } else if (what == 5) {
            due("undo()", real.undo(), model.undo());
        }
    }

    private void odds() {
        int a = below(6);
        int b = below(6);
        for (int part = 0; part < 2; part++) {
            String call = "(" + a + ", " + b + ", " + part + ")";
            due("odds" + call, real.odds(a, b, part), model.odds(a, b, part));
            due("lasts" + call, real.lasts(a, b, part), model.lasts(a, b, part));
            due("half" + call, real.half(a, b, part), model.half(a, b, part));
            due("worth" + call, real.worth(a, b, part), model.worth(a, b, part));
        }
        int part = below(3);
        due("waits(" + a + ", " + part + ")", real.waits(a, part), model.waits(a, part));
        due("odds(" + a + ", " + b + ", " + part + ")", real.odds(a, b, part), model.odds(a, b, part));
    }

    private void choose() {
        int a = below(6);
        int b = below(6);
        int c = below(6);
        switch (random.nextInt(4)) {
            case 0:
                int n = below(5);
                int k = below(5);
                due("best(" + a + ", " + n + ", " + k + ")", real.best(a, n, k), model.best(a, n, k));
                break;
            case 1:
                due("ring(" + a + ", " + b + ", " + c + ")", real.ring(a, b, c), model.ring(a, b, c));
                break;
            case 2:
                due("fair(" + a + ", " + b + ")", real.fair(a, b), model.fair(a, b));
                break;
            default:
                int player = below(4);
                for (int at = -1; at < 5; at++) {
                    due("pick(" + player + ", " + a + ", " + at + ")",
                        real.pick(player, a, at), model.pick(player, a, at));
                }
                int odd = below(7);
                due("pick(" + player + ", " + a + ", " + odd + ")",
                    real.pick(player, a, odd), model.pick(player, a, odd));
        }
    }

    private void throwsAsked() {
        int row = below(6);
        int part = below(2);
        int n = below(17);
        due("within(" + row + ", " + n + ", " + part + ")", real.within(row, n, part), model.within(row, n, part));
        int m = below(62);
        due("often(" + row + ", " + m + ", " + part + ")", real.often(row, m, part), model.often(row, m, part));
        int f = below(32);
        due("free(" + f + ")", real.free(f), model.free(f));
        due("came(" + row + ")", real.came(row), model.came(row));
        due("ends(" + row + ")", real.ends(row), model.ends(row));
        due("ahead()", real.ahead(), model.ahead());
    }

    private void rest() {
        int player = below(4);
        int act = below(3);
        int x = random.nextBoolean() ? random.nextInt() : below(100);
        due("act(" + player + ", " + act + ", " + x + ")", real.act(player, act, x), model.act(player, act, x));
        for (int i = -1; i < 8; i++) {
            due("trace(" + i + ")", real.trace(i), model.trace(i));
        }
        int kind = below(7);
        due("as(" + player + ", " + kind + ")", real.as(player, kind), model.as(player, kind));
        for (int what = -1; what < 8; what++) {
            due("count(" + what + ")", real.count(what), model.count(what));
        }
        int what = random.nextBoolean() ? below(5) : 10 + below(4);
        due("told(" + what + ")", real.told(what), model.told(what));
        int row = below(6);
        int k = below(8) - 1;
        due("of(" + row + ", " + k + ")", real.of(row, k), model.of(row, k));
    }
}
