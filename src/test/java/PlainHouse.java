import java.util.ArrayList;
import java.util.List;
import java.util.NoSuchElementException;

/** The document's eighteen promises in their plainest form, over PlainTables: what EndgameHouse is held against. */
final class PlainHouse {
    private PlainTables board = PlainTables.of(8);
    private final boolean[] made = new boolean[3];
    private final List<int[]> hand = new ArrayList<>();
    private final List<int[]> plies = new ArrayList<>();
    private final StringBuilder tape = new StringBuilder();
    private String shown = "";

    boolean board(int n) {
        if (n < 4 || n > 8) {
            return false;
        }
        board = PlainTables.of(n);
        made[0] = false;
        made[1] = false;
        made[2] = false;
        plies.clear();
        return true;
    }

    int make(int material) {
        if (material < 0 || material > 2) {
            return -1;
        }
        for (int other = 0; other < 3; other++) {
            made[other] = made[other] || other == material || material == 2;
        }
        return board.canonical(material).length;
    }

    boolean isLegal(int material, int white, int black, int man, int turn) {
        return board.legal(material, white, black, man, turn);
    }

    int moves(int material, int white, int black, int man, int turn) {
        if (!isLegal(material, white, black, man, turn)) {
            return -1;
        }
        return board.steps(material, board.key(white, black, man, turn)).size();
    }

    private void need(boolean held) {
        if (!held) {
            throw new NoSuchElementException();
        }
    }

    private void needMade(int material) {
        need(material >= 0 && material < 3 && made[material]);
    }

    private int needKey(int material, int white, int black, int man, int turn) {
        needMade(material);
        need(isLegal(material, white, black, man, turn));
        return board.key(white, black, man, turn);
    }

    int distance(int material, int white, int black, int man, int turn) {
        return board.distanceOf(material, needKey(material, white, black, man, turn));
    }

    int best(int material, int white, int black, int man, int turn) {
        int key = needKey(material, white, black, man, turn);
        hand.clear();
        for (PlainTables.Step step : board.best(material, key)) {
            hand.add(new int[] {step.from(), step.to(), step.becomes(), board.distanceOf(step)});
        }
        return hand.size();
    }

    int move(int k, int what) {
        return k < 0 || k >= hand.size() || what < 0 || what > 3 ? -1 : hand.get(k)[what];
    }

    int line(int material, int white, int black, int man, int turn) {
        int key = needKey(material, white, black, man, turn);
        int at = material;
        plies.clear();
        plies.add(plyOf(at, key));
        while (board.distanceOf(at, key) > 0) {
            PlainTables.Step step = board.first(at, key);
            at = step.material();
            key = step.key();
            plies.add(plyOf(at, key));
        }
        return plies.size() - 1;
    }

    private int[] plyOf(int material, int key) {
        return new int[] {material, board.whiteOf(key), board.blackOf(key), board.manOf(key), board.turnOf(key)};
    }

    int ply(int k, int what) {
        return k < 0 || k >= plies.size() || what < 0 || what > 4 ? -1 : plies.get(k)[what];
    }

    int number(int material, int white, int black, int man, int turn) {
        return board.numberOf(material, needKey(material, white, black, man, turn));
    }

    int position(int material, int k, int what) {
        needMade(material);
        int[] keys = board.canonical(material);
        if (k < 0 || k >= keys.length || what < 0 || what > 4) {
            return -1;
        }
        return what == 4 ? board.distanceOf(material, keys[k]) : plyOf(material, keys[k])[what + 1];
    }

    int count(int material, int turn, int d) {
        needMade(material);
        need(turn == 0 || turn == 1);
        int count = 0;
        for (int key : board.canonical(material)) {
            if (board.turnOf(key) == turn && counts(material, key, d)) {
                count++;
            }
        }
        return count;
    }

    private boolean counts(int material, int key, int d) {
        if (d == -2) {
            return true;
        }
        int own = board.distanceOf(material, key);
        if (d != -3) {
            return own == d;
        }
        int turned = key ^ 1;
        if (!board.legal(material, turned)) {
            return false;
        }
        int other = board.distanceOf(material, turned);
        return board.turnOf(key) == 0 ? own < 0 && other >= 0 : own >= 0 && other < 0;
    }

    int longest(int material, int turn, int what) {
        needMade(material);
        need(turn == 0 || turn == 1);
        int[] keys = board.canonical(material);
        int first = -1;
        int most = -1;
        for (int k = 0; k < keys.length; k++) {
            int far = board.distanceOf(material, keys[k]);
            if (board.turnOf(keys[k]) == turn && far > most) {
                most = far;
                first = k;
            }
        }
        return what == 0 ? most : what == 1 ? first : -1;
    }

    int feed(int a, int b, int c, int d, int e) {
        if (tape.length() > 20) {
            return -1;
        }
        for (int four : new int[] {a, b, c, d, e}) {
            for (int i = 3; i >= 0; i--) {
                tape.append((char) (four >> 8 * i & 255));
            }
        }
        return tape.length();
    }

    int read(int n) {
        if (n < 0 || n > tape.length()) {
            return -2;
        }
        String text = tape.substring(0, n);
        tape.setLength(0);
        if (!text.matches("K[a-h][1-8] [QRP][a-h][1-8] k[a-h][1-8] [wb]")) {
            return -1;
        }
        int material = "QRP".indexOf(text.charAt(4));
        int white = square(text, 1);
        int man = square(text, 5);
        int black = square(text, 9);
        int turn = "wb".indexOf(text.charAt(12));
        if (!isLegal(material, white, black, man, turn)) {
            return -1;
        }
        return board.key(white, black, man, turn) + board.keys() * material;
    }

    private int square(String text, int at) {
        int file = text.charAt(at) - 'a';
        int rank = text.charAt(at + 1) - '1';
        return file < board.n && rank < board.n ? board.n * rank + file : -1;
    }

    int show(int material, int white, int black, int man, int turn) {
        if (!isLegal(material, white, black, man, turn)) {
            return -1;
        }
        shown = "K" + name(white) + " " + "QRP".charAt(material) + name(man) + " k" + name(black) + " " + "wb".charAt(turn);
        return shown.length();
    }

    private String name(int square) {
        return "" + (char) ('a' + square % board.n) + (char) ('1' + square / board.n);
    }

    int out(int i) {
        return i < 0 || i >= shown.length() ? -1 : shown.charAt(i);
    }
}
