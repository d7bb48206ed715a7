import java.util.ArrayList;
import java.util.List;

/**
 * A STALL, read otherwise than the class reads it: FAULT by asking byte after byte which bytes may
 * stand there, what holds by taking the text apart at its outermost | and &.
 */
final class ModelStall {
    static final ModelStall NONE = new ModelStall(List.of());

    int signs = 2;
    int fee = 1;
    int prize = 10;
    private final List<String> clauses;

    private ModelStall(List<String> clauses) {
        this.clauses = clauses;
        for (String clause : clauses) {
            String[] parts = clause.split(" ");
            int n = Integer.parseInt(parts[1]);
            switch (parts[0]) {
                case "signs" -> signs = n > 2 ? 3 : 2;
                case "fee" -> fee = n;
                case "prize" -> prize = n;
                default -> { }
            }
        }
    }

    static ModelStall of(String text) {
        return new ModelStall(List.of(text.split(";")));
    }

    int weight(int s, int day) {
        int sum = 1;
        for (String clause : clauses) {
            if (clause.startsWith("heavy ")) {
                String[] parts = clause.split(" ");
                if (holds(parts[2], s, day)) {
                    sum += Integer.parseInt(parts[1]);
                }
            }
        }
        return Math.min(4, sum);
    }

    private boolean holds(String e, int s, int day) {
        List<String> some = apart(e, '|');
        if (some.size() > 1) {
            return some.stream().anyMatch(t -> holds(t, s, day));
        }
        List<String> each = apart(e, '&');
        if (each.size() > 1) {
            return each.stream().allMatch(f -> holds(f, s, day));
        }
        if (e.charAt(0) == '!') {
            return !holds(e.substring(1), s, day);
        }
        if (e.charAt(0) == '(') {
            return holds(e.substring(1, e.length() - 1), s, day);
        }
        int value = switch (e.charAt(0)) {
            case 's' -> s;
            case 'g' -> signs;
            default -> day;
        };
        int number = Integer.parseInt(e.substring(2));
        return switch (e.charAt(1)) {
            case '<' -> value < number;
            case '=' -> value == number;
            default -> value > number;
        };
    }

    private static List<String> apart(String e, char at) {
        List<String> parts = new ArrayList<>();
        int depth = 0;
        int from = 0;
        for (int i = 0; i < e.length(); i++) {
            char c = e.charAt(i);
            depth += c == '(' ? 1 : c == ')' ? -1 : 0;
            if (c == at && depth == 0) {
                parts.add(e.substring(from, i));
                from = i + 1;
            }
        }
        parts.add(e.substring(from));
        return parts;
    }

    /** The FAULT, or -1: the first place whose byte is not among those that may follow. */
    static int fault(String text) {
        for (int i = 0; i < text.length(); i++) {
            if (may(text.substring(0, i)).indexOf(text.charAt(i)) < 0) {
                return i;
            }
        }
        return may(text).indexOf('$') >= 0 ? -1 : text.length();
    }

    /** The bytes that may follow what can begin a STALL; $ if it may end there. */
    static String may(String text) {
        int last = text.lastIndexOf(';');
        String clause = text.substring(last + 1);
        String end = text.chars().filter(c -> c == ';').count() < 9 ? ";$" : "$";
        StringBuilder may = new StringBuilder();
        for (String word : new String[] {"heavy ", "signs ", "fee ", "prize "}) {
            if (word.startsWith(clause) && clause.length() < word.length()) {
                may.append(word.charAt(clause.length()));
            }
        }
        if (may.length() > 0) {
            return may.toString();
        }
        int blank = clause.indexOf(' ');
        String rest = clause.substring(blank + 1);
        if (!clause.startsWith("heavy")) {
            return mayNumber(rest, end);
        }
        int second = rest.indexOf(' ');
        return second < 0 ? mayNumber(rest, " ") : mayE(rest.substring(second + 1), end);
    }

    private static String mayNumber(String digits, String behind) {
        if (digits.isEmpty()) {
            return "0123456789";
        }
        return digits.length() == 1 && digits.charAt(0) != '0' ? "0123456789" + behind : behind;
    }

    private static String mayE(String e, String end) {
        // What is open, the innermost at the end.
        StringBuilder open = new StringBuilder();
        int i = 0;
        while (i < e.length()) {
            char c = e.charAt(i);
            if (c == '!' || c == '(') {
                open.append(c);
                i++;
            } else if (c == '|' || c == '&') {
                i++;
            } else if (c == ')') {
                open.setLength(open.length() - 1);
                closeNots(open);
                i++;
            } else {
                int to = i + 1;
                while (to < e.length() && "<=>0123456789".indexOf(e.charAt(to)) >= 0) {
                    to++;
                }
                String test = e.substring(i, to);
                if (test.length() == 1) {
                    return "<=>";
                }
                closeNots(open);
                if (to == e.length()) {
                    String behind = "&|" + (open.length() > 0 ? ")" : end);
                    return mayNumber(test.substring(2), behind);
                }
                i = to;
            }
        }
        if (e.endsWith(")")) {
            return "&|" + (open.length() > 0 ? ")" : end);
        }
        return open.length() < 5 ? "sgd!(" : "sgd";
    }

    private static void closeNots(StringBuilder open) {
        while (open.length() > 0 && open.charAt(open.length() - 1) == '!') {
            open.setLength(open.length() - 1);
        }
    }
}
