import java.util.ArrayList;
import java.util.Arrays;
import java.util.List;
import java.util.Set;
import java.util.regex.Matcher;
import java.util.regex.Pattern;

/** A run of calls on one new object, read line by line: see src/test/edges/README.md. */
final class EdgeRun {
    private static final Set<String> ASKS = Set.of("told", "of", "waits", "odds", "lasts", "half", "worth",
        "best", "ring", "pick", "fair", "within", "often", "free", "came", "ends", "ahead", "trace", "as", "count");
    private static final Set<String> FRACTIONS =
        Set.of("waits", "odds", "lasts", "half", "worth", "within", "often");
    private static final List<String> REFUSALS = List.of("NONE", "BAD", "STATE", "FULL");

    private static final Pattern CALL = Pattern.compile("([a-z]+)\\(([^)]*)\\) = (\\S+)");
    private static final Pattern TIMES = Pattern.compile("times (\\d+) (.*)");
    private static final Pattern STALL = Pattern.compile("stall \"(.*)\"");
    private static final Pattern FAULT = Pattern.compile("fault (\\d+) \"(.*)\"");
    private static final Pattern TAPE = Pattern.compile("tape \"(.*)\"");
    private static final Pattern SIGNS = Pattern.compile("(rows|strip|thrown)((?: [012]+)+)");

    private static int looks;

    private record Call(String name, int[] told) {
        long ask(Play play) {
            return play.ask(name, told);
        }
    }

    private final Check check;
    private final String title;
    private final Play play = new Play();
    private final List<Call> done = new ArrayList<>();
    private String where = "";

    EdgeRun(Check check, String title) {
        this.check = check;
        this.title = title;
    }

    static int looks() {
        return looks;
    }

    void close() {
        check.part(title);
        check.holds("at most 512 calls", play.calls() <= Play.MOST_CALLS);
    }

    void line(String at, String line) {
        where = at;
        check.part(at + ", " + title);
        Matcher m;
        if ((m = TIMES.matcher(line)).matches()) {
            times(Integer.parseInt(m.group(1)), m.group(2));
        } else if ((m = STALL.matcher(line)).matches()) {
            feed(m.group(1));
            check.holds("a STALL: " + line, done("stall") >= 0);
        } else if ((m = FAULT.matcher(line)).matches()) {
            fault(Integer.parseInt(m.group(1)), m.group(2));
        } else if ((m = TAPE.matcher(line)).matches()) {
            feed(m.group(1));
        } else if ((m = SIGNS.matcher(line)).matches()) {
            signs(m.group(1), m.group(2).strip().split(" "));
        } else {
            for (String call : line.split("; *")) {
                call(call);
            }
        }
    }

    private long done(String name, int... told) {
        Call call = new Call(name, told);
        done.add(call);
        return call.ask(play);
    }

    private void feed(String text) {
        for (char c : text.toCharArray()) {
            check.holds("room for " + text, done("feed", c) > 0);
        }
    }

    private void signs(String how, String[] rows) {
        for (String row : rows) {
            for (char c : row.toCharArray()) {
                check.holds("room for " + row, done(how.equals("thrown") ? "toss" : "sign", c - '0') > 0);
            }
            if (how.equals("rows")) {
                check.holds("room for the ROW " + row, done("row") >= 0);
            }
        }
    }

    /** The text is no STALL, and with THE TAPE empty again all is as it was ahead of it. */
    private void fault(int place, String text) {
        int before = done.size();
        feed(text);
        check.due("stall() of " + text, done("stall"), -10 - place);
        same("the FAULT of " + text, before, done.size());
    }

    /** The answer told is that of the last time. */
    private void times(int n, String text) {
        Matcher m = match(text);
        for (int i = 1; i < n; i++) {
            done(m.group(1), told(m.group(2)));
        }
        call(text);
    }

    private void call(String text) {
        Matcher m = match(text);
        String name = m.group(1);
        int[] told = told(m.group(2));
        String want = m.group(3);
        if (FRACTIONS.contains(name) && told.length == Play.parameters(name) - 1) {
            String[] parts = want.equals("NO") ? new String[] {"NO", "NO"} : want.split("/");
            for (int part = 0; part < 2; part++) {
                int[] longer = Arrays.copyOf(told, told.length + 1);
                longer[told.length] = part;
                due(name, longer, parts[part]);
            }
        } else {
            due(name, told, want);
        }
    }

    private void due(String name, int[] told, String want) {
        int before = done.size();
        String args = Arrays.toString(told);
        String call = name + "(" + args.substring(1, args.length() - 1) + ")";
        check.due(call, done(name, told), number(want));
        if (ASKS.contains(name) || REFUSALS.contains(want)) {
            same(call, before, done.size());
        }
    }

    /** Looks at two new objects: on the one the calls are done up to from, on the other one up to to. */
    private void same(String what, int from, int to) {
        looks++;
        List<Long> without = look(from);
        List<Long> with = look(to);
        int n = Math.min(without.size(), with.size());
        check.holds(what + " changes nothing", without.subList(0, n).equals(with.subList(0, n)));
    }

    private List<Long> look(int upTo) {
        Play again = new Play();
        for (int i = 0; i < upTo; i++) {
            done.get(i).ask(again);
        }
        return Look.at(again);
    }

    private Matcher match(String text) {
        Matcher m = CALL.matcher(text);
        if (!m.matches()) {
            throw new IllegalArgumentException(where + ": not to be read: " + text);
        }
        return m;
    }

    private static int[] told(String text) {
        if (text.isEmpty()) {
            return new int[0];
        }
        String[] parts = text.split(", *");
        int[] told = new int[parts.length];
        for (int i = 0; i < parts.length; i++) {
            told[i] = Math.toIntExact(number(parts[i]));
        }
        return told;
    }

    private static long number(String text) {
        return switch (text) {
            case "LOW" -> Integer.MIN_VALUE;
            case "HIGH" -> Integer.MAX_VALUE;
            case "NO" -> RowFirst.NO;
            case "NONE" -> RowFirst.NONE;
            case "BAD" -> RowFirst.BAD;
            case "STATE" -> RowFirst.STATE;
            case "FULL" -> RowFirst.FULL;
            default -> Long.parseLong(text);
        };
    }
}
