import java.util.ArrayList;
import java.util.List;

/** The KINDS of PLAYERS as Java classes under one another: super is Java's own. */
final class ModelPlayers {
    private ModelPlayers() {
    }

    static Picker make(int kind, int v, int i) {
        Picker made = switch (kind) {
            case 0 -> new Picker();
            case 1 -> new First();
            case 2 -> new Buying();
            case 3 -> new Stopping();
            case 4 -> new Second();
            case 5 -> new Team();
            case 6 -> new Told();
            default -> throw new IllegalArgumentException("no such kind: " + kind);
        };
        made.kind = kind;
        made.v = v;
        made.i = i;
        return made;
    }

    static boolean isA(Picker player, int kind) {
        return switch (kind) {
            case 0 -> true;
            case 1 -> player instanceof First;
            case 2 -> player instanceof Buying;
            case 3 -> player instanceof Stopping;
            case 4 -> player instanceof Second;
            case 5 -> player instanceof Team;
            case 6 -> player instanceof Told;
            default -> throw new IllegalArgumentException("no such kind: " + kind);
        };
    }

    static class Picker {
        int kind;
        int v;
        int i;
        String own = "";
        List<Integer> trace = new ArrayList<>();

        int picks(int x) {
            trace.add(1);
            return x + i;
        }

        int pays(int x) {
            trace.add(2);
            return picks(x) - v;
        }

        int tells(int x) {
            trace.add(3);
            return pays(x) * 2;
        }
    }

    static class First extends Picker {
        @Override
        int picks(int x) {
            trace.add(11);
            return super.picks(x * 3);
        }
    }

    static class Buying extends Picker {
        @Override
        int pays(int x) {
            trace.add(21);
            return -super.pays(x);
        }
    }

    static class Stopping extends Picker {
        @Override
        int tells(int x) {
            trace.add(31);
            return super.tells(x) ^ 7;
        }
    }

    static final class Second extends First {
        @Override
        int tells(int x) {
            trace.add(41);
            return super.tells(x - 1) + picks(2);
        }
    }

    static final class Team extends Buying {
        @Override
        int picks(int x) {
            trace.add(51);
            return super.picks(x) ^ i;
        }
    }

    static final class Told extends Stopping {
        @Override
        int pays(int x) {
            trace.add(61);
            return super.pays(x) + v;
        }
    }
}
