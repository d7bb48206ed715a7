import java.util.ArrayList;
import java.util.List;

/**
 * All that can be seen of an object, asked for in the same order of any two: first what stands there
 * now, then what THE STRIP, THROWS and THE TAPE hold, then the same behind undo(). It ends where the
 * object has had its 512 calls, and uses the object up.
 */
final class Look {
    private final Play play;
    private final List<Long> seen = new ArrayList<>();

    private Look(Play play) {
        this.play = play;
    }

    static List<Long> at(Play play) {
        Look look = new Look(play);
        look.whole();
        look.see("undo");
        look.whole();
        return look.seen;
    }

    private long see(String name, int... told) {
        if (!play.mayAsk()) {
            return -1;
        }
        long answer = play.ask(name, told);
        seen.add(answer);
        return answer;
    }

    private void whole() {
        long ran = 0;
        for (int what = 0; what < 7; what++) {
            ran = see("count", what);
        }
        for (int i = 0; i < ran; i++) {
            see("trace", i);
        }
        stall();
        see("told", 3);
        see("ahead");
        rows();
        players();
        strip();
        throwsOnes();
        see("stall");
        stall();
    }

    private void stall() {
        for (int what : new int[] {0, 1, 2, 10, 11, 12}) {
            see("told", what);
        }
    }

    private void rows() {
        for (int row = 0; row < 6; row++) {
            long size = see("of", row, -1);
            for (int k = 0; k < size; k++) {
                see("of", row, k);
            }
            if (size > 0) {
                see("came", row);
                see("ends", row);
            }
        }
    }

    private void players() {
        for (int player = 0; player < 4 && see("as", player, 0) >= 0; player++) {
            for (int kind = 1; kind < 7; kind++) {
                see("as", player, kind);
            }
            picked(player);
        }
    }

    private void picked(int player) {
        long size = see("pick", player, 0, -1);
        for (int k = 0; k < size; k++) {
            see("pick", player, 0, k);
        }
    }

    /** As a ROW, or as the OWN row of a TOLD one. */
    private void strip() {
        long row = see("row");
        if (row >= 0) {
            long size = see("of", (int) row, -1);
            for (int k = 0; k < size; k++) {
                see("of", (int) row, k);
            }
        } else {
            see("player", 6, 0);
            for (int player = 0; player < 4; player++) {
                if (see("own", player) >= 0) {
                    picked(player);
                }
            }
        }
    }

    /** Where there is room for ROWS of one sign. */
    private void throwsOnes() {
        see("sign", -1);
        for (int s = 0; s < 3; s++) {
            see("sign", s);
            int row = (int) see("row");
            if (row >= 0) {
                see("came", row);
                see("ends", row);
            }
        }
        see("sign", -1);
    }
}
