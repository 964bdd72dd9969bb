import java.util.List;

/**
 * Every position of every material on every board, held against PlainTables. One object is asked far more than the
 * 512 times for which the document speaks; this program answers all the same.
 */
public final class WholeTablesTest {
    private static final Checks CHECKS = new Checks();

    public static void main(String[] args) {
        for (int n = 4; n <= 8; n++) {
            EndgameHouse house = new EndgameHouse();
            house.board(n);
            for (int material = 2; material >= 0; material--) {
                comparePositions(house, PlainTables.of(n), material);
                compareNumbers(house, PlainTables.of(n), material);
            }
            compareCounts(house, n);
            compareLines(house, PlainTables.of(n));
            compareTexts(house, PlainTables.of(n));
        }
        CHECKS.end();
    }

    private static void comparePositions(EndgameHouse house, PlainTables plain, int material) {
        CHECKS.same("make", house.make(material), plain.canonical(material).length);
        for (int key = 0; key < plain.keys(); key++) {
            int w = plain.whiteOf(key);
            int b = plain.blackOf(key);
            int m = plain.manOf(key);
            int t = plain.turnOf(key);
            boolean legal = plain.legal(material, key);
            same("isLegal", plain, material, key, house.isLegal(material, w, b, m, t) ? 1 : 0, legal ? 1 : 0);
            if (legal) {
                same("distance", plain, material, key, house.distance(material, w, b, m, t),
                        plain.distanceOf(material, key));
                same("number", plain, material, key, house.number(material, w, b, m, t), plain.numberOf(material, key));
                compareMoves(house, plain, material, key);
            }
        }
    }

    private static void compareMoves(EndgameHouse house, PlainTables plain, int material, int key) {
        int w = plain.whiteOf(key);
        int b = plain.blackOf(key);
        int m = plain.manOf(key);
        int t = plain.turnOf(key);
        same("moves", plain, material, key, house.moves(material, w, b, m, t), plain.steps(material, key).size());
        List<PlainTables.Step> best = plain.best(material, key);
        same("best", plain, material, key, house.best(material, w, b, m, t), best.size());
        for (int k = 0; k < best.size(); k++) {
            PlainTables.Step step = best.get(k);
            same("move 0", plain, material, key, house.move(k, 0), step.from());
            same("move 1", plain, material, key, house.move(k, 1), step.to());
            same("move 2", plain, material, key, house.move(k, 2), step.becomes());
            same("move 3", plain, material, key, house.move(k, 3), plain.distanceOf(step));
        }
    }

    private static void compareNumbers(EndgameHouse house, PlainTables plain, int material) {
        int[] keys = plain.canonical(material);
        for (int k = 0; k < keys.length; k++) {
            same("position 0", plain, material, keys[k], house.position(material, k, 0), plain.whiteOf(keys[k]));
            same("position 1", plain, material, keys[k], house.position(material, k, 1), plain.blackOf(keys[k]));
            same("position 2", plain, material, keys[k], house.position(material, k, 2), plain.manOf(keys[k]));
            same("position 3", plain, material, keys[k], house.position(material, k, 3), plain.turnOf(keys[k]));
            same("position 4", plain, material, keys[k], house.position(material, k, 4),
                    plain.distanceOf(material, keys[k]));
        }
    }

    private static void compareCounts(EndgameHouse house, int n) {
        PlainHouse plain = new PlainHouse();
        plain.board(n);
        plain.make(2);
        for (int material = 0; material < 3; material++) {
            for (int turn = 0; turn < 2; turn++) {
                String asked = " on " + n + " files of material " + material + ", turn " + turn + ", ";
                for (int d = -5; d < 60; d++) {
                    CHECKS.same("count" + asked + d, house.count(material, turn, d), plain.count(material, turn, d));
                }
                for (int what = -1; what < 3; what++) {
                    CHECKS.same("longest" + asked + what, house.longest(material, turn, what),
                            plain.longest(material, turn, what));
                }
            }
        }
    }

    /** From all positions: the first best move goes by squares, so that lines of images are not images. */
    private static void compareLines(EndgameHouse house, PlainTables plain) {
        PlainHouse model = new PlainHouse();
        model.board(plain.n);
        model.make(2);
        for (int material = 0; material < 3; material++) {
            for (int key = 0; key < plain.keys(); key++) {
                if (plain.legal(material, key)) {
                    compareLine(house, model, plain, material, key);
                }
            }
        }
    }

    private static void compareLine(EndgameHouse house, PlainHouse model, PlainTables plain, int material, int key) {
        int w = plain.whiteOf(key);
        int b = plain.blackOf(key);
        int m = plain.manOf(key);
        int t = plain.turnOf(key);
        int plies = model.line(material, w, b, m, t);
        same("line", plain, material, key, house.line(material, w, b, m, t), plies);
        for (int i = 0; i < 5 * plies + 10; i++) {
            same("ply", plain, material, key, house.ply(i / 5, i % 5), model.ply(i / 5, i % 5));
        }
    }

    private static void compareTexts(EndgameHouse house, PlainTables plain) {
        for (int material = 0; material < 3; material++) {
            for (int key = 0; key < plain.keys(); key++) {
                int[] at = {material, plain.whiteOf(key), plain.blackOf(key), plain.manOf(key), plain.turnOf(key)};
                boolean legal = plain.legal(material, key);
                same("show", plain, material, key, Houses.show(house, at), legal ? 13 : -1);
                if (legal) {
                    int read = Houses.readText(house, Houses.outOf(house));
                    same("read what was shown", plain, material, key, read, key + plain.keys() * material);
                }
            }
        }
    }

    private static void same(String call, PlainTables plain, int material, int key, int got, int due) {
        CHECKS.same(() -> call + " on " + plain.n + " files, material " + material + ", key " + key, got, due);
    }
}
