import java.math.BigInteger;
import java.util.ArrayList;
import java.util.HashMap;
import java.util.List;
import java.util.Map;

/**
 * The document once more, plain and slow: rows are texts, fractions are of any size, and games are
 * not laid out by LAPs but by what each throw leads to (equations, solved).
 */
final class Model {
    static final int NONE = -1, BAD = -2, STATE = -3, FULL = -4;
    static final long NO = Long.MIN_VALUE;

    private static final Map<String, Frac[]> GAMES = new HashMap<>();

    private State now = new State();
    private State kept;
    private List<Integer> trace = new ArrayList<>();

    private static final class State {
        String tape = "";
        ModelStall stall = ModelStall.NONE;
        int stalls;
        int day;
        String strip = "";
        List<String> rows = new ArrayList<>();
        List<ModelPlayers.Picker> players = new ArrayList<>();
        String thrown = "";

        State copy() {
            State copy = new State();
            copy.tape = tape;
            copy.stall = stall;
            copy.stalls = stalls;
            copy.day = day;
            copy.strip = strip;
            copy.rows.addAll(rows);
            for (ModelPlayers.Picker player : players) {
                ModelPlayers.Picker again = ModelPlayers.make(player.kind, player.v, player.i);
                again.own = player.own;
                copy.players.add(again);
            }
            copy.thrown = thrown;
            return copy;
        }
    }

    int feed(int sign) {
        if (sign < 0 || sign > 127) return BAD;
        if (now.tape.length() == 100) return FULL;
        now.tape += (char) sign;
        return now.tape.length();
    }

    int stall() {
        if (now.stalls == 5) return FULL;
        String text = now.tape;
        now.tape = "";
        int fault = ModelStall.fault(text);
        if (fault >= 0) return -10 - fault;
        now.stall = ModelStall.of(text);
        return now.stalls++;
    }

    int day(int n) {
        if (n < 0 || n > 9) return BAD;
        int was = now.day;
        now.day = n;
        return was;
    }

    int told(int what) {
        if (what == 0) return signs();
        if (what == 1) return now.stall.fee;
        if (what == 2) return now.stall.prize;
        if (what == 3) return now.day;
        int all = 0;
        for (int weight : weights()) all += weight;
        if (what == 4) return all;
        return what >= 10 && what - 10 < signs() && what < 100 ? weights()[what - 10] : NONE;
    }

    int sign(int s) {
        if (s == -1) {
            now.strip = "";
            return 0;
        }
        if (s < 0 || s > 2) return BAD;
        if (now.strip.length() == 6) return FULL;
        now.strip += s;
        return now.strip.length();
    }

    int row() {
        if (now.strip.isEmpty()) return STATE;
        if (now.rows.size() == 6) return FULL;
        now.rows.add(now.strip);
        now.strip = "";
        return now.rows.size() - 1;
    }

    int of(int row, int k) {
        if (!isRow(row)) return NONE;
        return ofText(now.rows.get(row), k);
    }

    int player(int kind, int v) {
        if (kind < 0 || kind > 6) return NONE;
        if (v < 0 || v > 9) return BAD;
        if (now.players.size() == 4) return FULL;
        now.players.add(ModelPlayers.make(kind, v, now.players.size()));
        return now.players.size() - 1;
    }

    int own(int player) {
        if (!isPlayer(player)) return NONE;
        if (now.players.get(player).kind != 6) return STATE;
        now.players.get(player).own = now.strip;
        now.strip = "";
        return now.players.get(player).own.length();
    }

    long waits(int row, int part) {
        if (!isLawful(row) || !isPart(part)) return NO;
        return game(now.rows.get(row), "", "", weights())[1].part(part);
    }

    long odds(int one, int other, int part) {
        return isGame(one, other, part) ? played(one, other, "")[0].part(part) : NO;
    }

    long lasts(int one, int other, int part) {
        return isGame(one, other, part) ? played(one, other, "")[1].part(part) : NO;
    }

    long half(int one, int other, int part) {
        if (!isGame(one, other, part)) return NO;
        if (now.thrown.contains(now.rows.get(one)) || now.thrown.contains(now.rows.get(other))) return NO;
        if (!lawful(now.thrown)) return NO;
        return played(one, other, now.thrown)[0].part(part);
    }

    long worth(int one, int other, int part) {
        if (!isGame(one, other, part)) return NO;
        Frac[] game = played(one, other, "");
        return Frac.of(now.stall.prize).times(game[0])
            .minus(Frac.of(now.stall.fee).times(game[1])).part(part);
    }

    int best(int row, int n, int k) {
        if (!isRow(row) || k < 0 || k > 3) return NONE;
        if (n < 1 || n > 4) return BAD;
        if (!isLawful(row)) return STATE;
        String best = best(now.rows.get(row), n);
        return k >= n || best == null ? NONE : best.charAt(k) - '0';
    }

    int ring(int a, int b, int c) {
        if (!isRow(a) || !isRow(b) || !isRow(c)) return NONE;
        if (!isLawful(a) || !isLawful(b) || !isLawful(c)) return STATE;
        int[][] pairs = {{a, b}, {b, c}, {c, a}};
        for (int[] pair : pairs) {
            if (!apart(now.rows.get(pair[0]), now.rows.get(pair[1]))) return 0;
            if (played(pair[0], pair[1], "")[0].compareTo(Frac.of(1, 2)) <= 0) return 0;
        }
        return 1;
    }

    int pick(int player, int row, int k) {
        if (!isPlayer(player) || !isRow(row) || k < -1 || k > 5) return NONE;
        if (!isLawful(row)) return STATE;
        return ofText(picked(now.players.get(player), now.rows.get(row)), k);
    }

    int fair(int one, int other) {
        if (!isRow(one) || !isRow(other)) return NONE;
        if (!isGame(one, other, 0)) return STATE;
        int fairest = 0;
        Frac off = null;
        for (int w = 1; w <= 9; w++) {
            int[] weights = weights();
            weights[0] = w;
            Frac odds = game(now.rows.get(one), now.rows.get(other), "", weights)[0];
            Frac thisOff = odds.minus(Frac.of(1, 2)).abs();
            if (off == null || thisOff.compareTo(off) < 0) {
                off = thisOff;
                fairest = w;
            }
        }
        return fairest;
    }

    long within(int row, int n, int part) {
        if (!isLawful(row) || n < 0 || n > 15 || !isPart(part)) return NO;
        Frac won = Frac.ZERO;
        Map<String, Frac> ways = new HashMap<>();
        ways.put("", Frac.ONE);
        for (int i = 0; i < n; i++) {
            Map<String, Frac> then = new HashMap<>();
            for (Map.Entry<String, Frac> way : ways.entrySet()) {
                for (int s = 0; s < signs(); s++) {
                    String text = way.getKey() + s;
                    Frac odds = way.getValue().times(Frac.of(weights()[s], told(4)));
                    int winner = firstEnding(text);
                    if (winner == row) won = won.plus(odds);
                    if (winner < 0) then.merge(tail(text), odds, Frac::plus);
                }
            }
            ways = then;
        }
        return won.part(part);
    }

    long often(int row, int n, int part) {
        if (!isLawful(row) || n < 0 || n > 60 || !isPart(part)) return NO;
        Frac mean = Frac.ZERO;
        for (int from = 0; from + now.rows.get(row).length() <= n; from++) {
            Frac here = Frac.ONE;
            for (char c : now.rows.get(row).toCharArray()) {
                here = here.times(Frac.of(weights()[c - '0'], told(4)));
            }
            mean = mean.plus(here);
        }
        return mean.part(part);
    }

    long free(int n) {
        if (n < 0 || n > 30) return NO;
        Map<String, Long> ways = new HashMap<>();
        ways.put("", 1L);
        for (int i = 0; i < n; i++) {
            Map<String, Long> then = new HashMap<>();
            for (Map.Entry<String, Long> way : ways.entrySet()) {
                for (int s = 0; s < signs(); s++) {
                    String text = way.getKey() + s;
                    if (firstEnding(text) < 0) then.merge(tail(text), way.getValue(), Long::sum);
                }
            }
            ways = then;
        }
        return ways.values().stream().mapToLong(Long::longValue).sum();
    }

    int toss(int s) {
        if (s == -1) {
            now.thrown = "";
            return 0;
        }
        if (s < 0 || s > 2) return BAD;
        if (now.thrown.length() == 24) return FULL;
        now.thrown += s;
        return now.thrown.length();
    }

    int came(int row) {
        if (!isRow(row)) return NONE;
        int at = now.thrown.indexOf(now.rows.get(row));
        return at < 0 ? -5 : at + now.rows.get(row).length();
    }

    int ends(int row) {
        if (!isRow(row)) return NONE;
        int times = 0;
        for (int from = 0; from < now.thrown.length(); from++) {
            if (now.thrown.startsWith(now.rows.get(row), from)) times++;
        }
        return times;
    }

    int ahead() {
        int first = -5;
        for (int row = 0; row < now.rows.size(); row++) {
            if (came(row) >= 0 && (first < 0 || came(row) < came(first))) first = row;
        }
        return first;
    }

    int act(int player, int act, int x) {
        trace = new ArrayList<>();
        if (!isPlayer(player) || act < 0 || act > 2) return 0;
        ModelPlayers.Picker who = now.players.get(player);
        who.trace = trace;
        return act == 0 ? who.picks(x) : act == 1 ? who.pays(x) : who.tells(x);
    }

    int trace(int i) {
        return i < 0 || i >= trace.size() || i >= 20 ? NONE : trace.get(i);
    }

    int as(int player, int k) {
        if (!isPlayer(player) || k < 0 || k > 6) return NONE;
        ModelPlayers.Picker who = now.players.get(player);
        return ModelPlayers.isA(who, k) ? who.v : -6;
    }

    int image() {
        kept = now.copy();
        return now.rows.size();
    }

    int undo() {
        if (kept == null) return STATE;
        now = kept.copy();
        return now.rows.size();
    }

    int count(int what) {
        int[] counts = {now.rows.size(), now.players.size(), now.stalls, now.strip.length(),
            now.thrown.length(), now.tape.length(), trace.size()};
        return what < 0 || what > 6 ? NONE : counts[what];
    }

    private int signs() {
        return now.stall.signs;
    }

    private int[] weights() {
        int[] weights = new int[signs()];
        for (int s = 0; s < weights.length; s++) weights[s] = now.stall.weight(s, now.day);
        return weights;
    }

    private boolean isRow(int row) {
        return row >= 0 && row < now.rows.size();
    }

    private boolean isPlayer(int player) {
        return player >= 0 && player < now.players.size();
    }

    private static boolean isPart(int part) {
        return part == 0 || part == 1;
    }

    private boolean lawful(String text) {
        return signs() == 3 || text.indexOf('2') < 0;
    }

    private boolean isLawful(int row) {
        return isRow(row) && lawful(now.rows.get(row));
    }

    private static boolean apart(String a, String b) {
        return !a.contains(b) && !b.contains(a);
    }

    private boolean isGame(int one, int other, int part) {
        return isLawful(one) && isLawful(other) && isPart(part)
            && apart(now.rows.get(one), now.rows.get(other));
    }

    private static int ofText(String text, int k) {
        if (k == -1) return text.length();
        return k < 0 || k >= text.length() ? NONE : text.charAt(k) - '0';
    }

    private int firstEnding(String text) {
        for (int row = 0; row < now.rows.size(); row++) {
            if (lawful(now.rows.get(row)) && text.endsWith(now.rows.get(row))) return row;
        }
        return -1;
    }

    private static String tail(String text) {
        return text.substring(Math.max(0, text.length() - 5));
    }

    private List<String> rowsOf(int n) {
        List<String> rows = new ArrayList<>(List.of(""));
        for (int i = 0; i < n; i++) {
            List<String> longer = new ArrayList<>();
            for (String row : rows) {
                for (int s = 0; s < signs(); s++) longer.add(row + s);
            }
            rows = longer;
        }
        return rows;
    }

    private String best(String against, int n) {
        String best = null;
        Frac most = null;
        for (String row : rowsOf(n)) {
            if (!apart(row, against)) continue;
            Frac odds = game(row, against, "", weights())[0];
            if (best == null || odds.compareTo(most) > 0) {
                best = row;
                most = odds;
            }
        }
        return best;
    }

    private String byWait(List<String> rows, int way) {
        String found = null;
        Frac wait = null;
        for (String row : rows) {
            Frac here = game(row, "", "", weights())[1];
            if (found == null || here.compareTo(wait) * way > 0) {
                found = row;
                wait = here;
            }
        }
        return found;
    }

    private String beside(String row) {
        int last = row.length() - 1;
        return row.substring(0, last) + (row.charAt(last) - '0' + 1) % signs();
    }

    private String picked(ModelPlayers.Picker player, String row) {
        int n = player.v % 4 + 1;
        switch (player.kind) {
            case 0: return "0".repeat(n);
            case 1: return byWait(rowsOf(n), -1);
            case 2: return byWait(rowsOf(n), 1);
            case 3: return beside(row);
            case 4:
                String best = best(row, n);
                return best != null ? best : byWait(rowsOf(n), -1);
            case 5:
                List<String> good = new ArrayList<>();
                for (String one : rowsOf(n)) {
                    if (apart(one, row)
                        && game(one, row, "", weights())[0].compareTo(Frac.of(1, 2)) >= 0) good.add(one);
                }
                return byWait(good.isEmpty() ? rowsOf(n) : good, 1);
            default: return player.own.isEmpty() ? beside(row) : player.own;
        }
    }

    private Frac[] played(int one, int other, String thrown) {
        return game(now.rows.get(one), now.rows.get(other), thrown, weights());
    }

    /**
     * Odds that a comes ahead of b and throws there are in the mean, something being thrown already.
     * An empty b never comes.
     */
    private static Frac[] game(String a, String b, String thrown, int[] weights) {
        StringBuilder key = new StringBuilder(a + "," + b + "," + thrown);
        for (int weight : weights) key.append(',').append(weight);
        return GAMES.computeIfAbsent(key.toString(), k -> play(a, b, thrown, weights));
    }

    private static Frac[] play(String a, String b, String thrown, int[] weights) {
        List<String> states = new ArrayList<>();
        for (String row : new String[] {a, b}) {
            for (int i = 0; i < row.length(); i++) {
                if (!states.contains(row.substring(0, i))) states.add(row.substring(0, i));
            }
        }
        int all = 0;
        for (int weight : weights) all += weight;
        int n = states.size();
        // Behind the unknowns' columns: the odds' and the throws' one.
        Frac[][] lines = new Frac[n][n + 2];
        for (int i = 0; i < n; i++) {
            for (int j = 0; j < n + 2; j++) lines[i][j] = i == j || j == n + 1 ? Frac.ONE : Frac.ZERO;
            for (int s = 0; s < weights.length; s++) {
                Frac odds = Frac.of(weights[s], all);
                String text = states.get(i) + s;
                if (text.endsWith(a)) {
                    lines[i][n] = lines[i][n].plus(odds);
                } else if (b.isEmpty() || !text.endsWith(b)) {
                    int to = stateOf(text, states);
                    lines[i][to] = lines[i][to].minus(odds);
                }
            }
        }
        solve(lines, n);
        int start = stateOf(thrown, states);
        return new Frac[] {lines[start][n], lines[start][n + 1]};
    }

    private static int stateOf(String text, List<String> states) {
        for (int from = 0; from <= text.length(); from++) {
            int at = states.indexOf(text.substring(from));
            if (at >= 0) return at;
        }
        throw new IllegalStateException("no state");
    }

    private static void solve(Frac[][] lines, int n) {
        for (int c = 0; c < n; c++) {
            int p = c;
            while (lines[p][c].isZero()) p++;
            Frac[] swap = lines[p];
            lines[p] = lines[c];
            lines[c] = swap;
            Frac by = lines[c][c];
            for (int j = 0; j < n + 2; j++) lines[c][j] = lines[c][j].by(by);
            for (int i = 0; i < n; i++) {
                Frac times = lines[i][c];
                if (i == c || times.isZero()) continue;
                for (int j = c; j < n + 2; j++) {
                    lines[i][j] = lines[i][j].minus(times.times(lines[c][j]));
                }
            }
        }
    }
}
