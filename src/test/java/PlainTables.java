import java.util.ArrayList;
import java.util.Arrays;
import java.util.List;

/**
 * The document's terms for one size of board, word by word and without any of the program's shortcuts: all positions
 * by their KEYS, no symmetry used, attacks walked square by square, distances found forwards in passes.
 */
final class PlainTables {
    /** A move and the position that it goes to; material is -1 where that has no distance in any case. */
    record Step(int from, int to, int becomes, int material, int key) { }

    private static final PlainTables[] KEPT = new PlainTables[9];

    final int n;
    final int s;
    private final int[][] distances = new int[3][];
    private final int[][] numbers = new int[3][];
    private final int[][] canonical = new int[3][];
    private final Step[][] firsts = new Step[3][];

    private PlainTables(int n) {
        this.n = n;
        this.s = n * n;
    }

    static PlainTables of(int n) {
        if (KEPT[n] == null) {
            KEPT[n] = new PlainTables(n);
        }
        return KEPT[n];
    }

    int key(int white, int black, int man, int turn) {
        return 2 * ((white * s + black) * s + man) + turn;
    }

    int keys() {
        return 2 * s * s * s;
    }

    int whiteOf(int key) {
        return key / 2 / s / s;
    }

    int blackOf(int key) {
        return key / 2 / s % s;
    }

    int manOf(int key) {
        return key / 2 % s;
    }

    int turnOf(int key) {
        return key % 2;
    }

    boolean next(int one, int other) {
        return one != other && Math.abs(one / n - other / n) <= 1 && Math.abs(one % n - other % n) <= 1;
    }

    boolean attacks(int material, int white, int black, int man, int square) {
        int up = square / n - man / n;
        int right = square % n - man % n;
        if (material == 2) {
            return up == 1 && Math.abs(right) == 1;
        }
        boolean straight = up == 0 || right == 0;
        boolean slant = Math.abs(up) == Math.abs(right);
        if (square == man || !(straight || material == 0 && slant)) {
            return false;
        }
        int steps = Math.max(Math.abs(up), Math.abs(right));
        for (int i = 1; i < steps; i++) {
            int between = man + i * (n * Integer.signum(up) + Integer.signum(right));
            if (between == white || between == black) {
                return false;
            }
        }
        return true;
    }

    boolean legal(int material, int white, int black, int man, int turn) {
        if (material < 0 || material > 2 || turn < 0 || turn > 1) {
            return false;
        }
        if (white < 0 || white >= s || black < 0 || black >= s || man < 0 || man >= s) {
            return false;
        }
        if (white == black || white == man || black == man || next(white, black)) {
            return false;
        }
        if (material == 2 && (man / n == 0 || man / n == n - 1)) {
            return false;
        }
        return turn == 1 || !attacks(material, white, black, man, black);
    }

    boolean legal(int material, int key) {
        return legal(material, whiteOf(key), blackOf(key), manOf(key), turnOf(key));
    }

    List<Step> steps(int material, int key) {
        int white = whiteOf(key);
        int black = blackOf(key);
        int man = manOf(key);
        List<Step> steps = new ArrayList<>();
        for (int from = 0; from < s; from++) {
            boolean somebody = from == white || from == black || from == man;
            for (int to = 0; somebody && to < s; to++) {
                if (to == white || to == black) {
                    continue;
                }
                if (turnOf(key) == 1) {
                    if (from == black && next(black, to)) {
                        blackStep(steps, material, key, to);
                    }
                } else if (from == white && next(white, to) && to != man) {
                    keep(steps, material, new Step(from, to, -1, material, key(to, black, man, 1)));
                } else if (from == man && material != 2 && attacks(material, white, black, man, to)) {
                    keep(steps, material, new Step(from, to, -1, material, key(white, black, to, 1)));
                } else if (from == man && material == 2) {
                    pawnSteps(steps, key, to);
                }
            }
        }
        return steps;
    }

    private void blackStep(List<Step> steps, int material, int key, int to) {
        if (to == manOf(key)) {
            if (!next(whiteOf(key), to)) {
                steps.add(new Step(blackOf(key), to, -1, -1, -1));
            }
        } else {
            int after = key(whiteOf(key), to, manOf(key), 0);
            keep(steps, material, new Step(blackOf(key), to, -1, material, after));
        }
    }

    private void pawnSteps(List<Step> steps, int key, int to) {
        int man = manOf(key);
        int white = whiteOf(key);
        int black = blackOf(key);
        boolean one = to == man + n;
        boolean two = to == man + 2 * n && man / n == 1 && to / n != n - 1 && man + n != white && man + n != black;
        if (!one && !two) {
            return;
        }
        int after = key(white, black, to, 1);
        if (to / n != n - 1) {
            keep(steps, 2, new Step(man, to, -1, 2, after));
            return;
        }
        for (int becomes = 0; becomes < 4; becomes++) {
            if (becomes < 2) {
                keep(steps, becomes, new Step(man, to, becomes, becomes, after));
            } else {
                steps.add(new Step(man, to, becomes, -1, -1));
            }
        }
    }

    private void keep(List<Step> steps, int material, Step step) {
        if (legal(material, step.key)) {
            steps.add(step);
        }
    }

    int distanceOf(int material, int key) {
        if (distances[material] == null) {
            distances[material] = findDistances(material);
        }
        return distances[material][key];
    }

    int distanceOf(Step step) {
        return step.material < 0 ? -1 : distanceOf(step.material, step.key);
    }

    /** In pass d a position gets d, if its steps, with what passes before gave, ask for d. */
    private int[] findDistances(int material) {
        int[] found = new int[keys()];
        Arrays.fill(found, -1);
        List<Integer> open = new ArrayList<>();
        int[][] goals = new int[keys()][];
        int[] outside = new int[keys()];
        for (int key = 0; key < keys(); key++) {
            if (!legal(material, key)) {
                continue;
            }
            List<Step> steps = steps(material, key);
            if (steps.isEmpty()) {
                boolean attacked = attacks(material, whiteOf(key), blackOf(key), manOf(key), blackOf(key));
                found[key] = turnOf(key) == 1 && attacked ? 0 : -1;
                continue;
            }
            goals[key] = new int[steps.size()];
            outside[key] = -1;
            for (int i = 0; i < steps.size(); i++) {
                Step step = steps.get(i);
                goals[key][i] = step.material == material ? step.key : -1;
                int far = step.material == material || step.material < 0 ? -1 : distanceOf(step);
                if (far >= 0 && (outside[key] < 0 || far < outside[key])) {
                    outside[key] = far;
                }
            }
            open.add(key);
        }
        for (int d = 1; d < 120; d++) {
            List<Integer> left = new ArrayList<>();
            for (int key : open) {
                boolean now = turnOf(key) == 0 ? someGoalHas(found, goals[key], d - 1) || outside[key] == d - 1
                        : allGoalsHave(found, goals[key], d);
                if (now) {
                    found[key] = d;
                } else {
                    left.add(key);
                }
            }
            open = left;
        }
        return found;
    }

    private static boolean someGoalHas(int[] found, int[] goals, int d) {
        for (int goal : goals) {
            if (goal >= 0 && found[goal] == d) {
                return true;
            }
        }
        return false;
    }

    private static boolean allGoalsHave(int[] found, int[] goals, int d) {
        for (int goal : goals) {
            if (goal < 0 || found[goal] < 0 || found[goal] >= d) {
                return false;
            }
        }
        return true;
    }

    List<Step> best(int material, int key) {
        List<Step> steps = steps(material, key);
        List<Step> best = new ArrayList<>();
        int own = distanceOf(material, key);
        int goal = -1;
        for (Step step : steps) {
            int far = distanceOf(step);
            if (own >= 0 && far >= 0) {
                boolean better = goal < 0 || (turnOf(key) == 0 ? far < goal : far > goal);
                goal = better ? far : goal;
            }
        }
        for (Step step : steps) {
            if (distanceOf(step) == goal) {
                best.add(step);
            }
        }
        return best;
    }

    /** The first BEST MOVE of a DECIDED POSITION that is not MATE; found once, for many lines go through one. */
    Step first(int material, int key) {
        if (firsts[material] == null) {
            firsts[material] = new Step[keys()];
        }
        if (firsts[material][key] == null) {
            firsts[material][key] = best(material, key).get(0);
        }
        return firsts[material][key];
    }

    private int leastImage(int material, int key) {
        int least = key;
        int[] squares = {whiteOf(key), blackOf(key), manOf(key)};
        for (int turned = 0; turned < 4; turned++) {
            for (int mirrored = 0; mirrored < 2; mirrored++) {
                if (material == 2 && turned != 0) {
                    continue;
                }
                int[] image = squares.clone();
                for (int i = 0; i < 3; i++) {
                    for (int t = 0; t < turned; t++) {
                        image[i] = n * (n - 1 - image[i] % n) + image[i] / n;
                    }
                    if (mirrored == 1) {
                        image[i] = n * (image[i] / n) + n - 1 - image[i] % n;
                    }
                }
                least = Math.min(least, key(image[0], image[1], image[2], turnOf(key)));
            }
        }
        return least;
    }

    /** The KEYS of all CANONICAL LEGAL POSITIONS, in order. */
    int[] canonical(int material) {
        if (canonical[material] == null) {
            numbers[material] = new int[keys()];
            int[] keys = new int[keys()];
            int size = 0;
            for (int key = 0; key < keys(); key++) {
                if (!legal(material, key)) {
                    continue;
                }
                int least = leastImage(material, key);
                if (least == key) {
                    numbers[material][key] = size;
                    keys[size] = key;
                    size++;
                } else {
                    numbers[material][key] = numbers[material][least];
                }
            }
            canonical[material] = Arrays.copyOf(keys, size);
        }
        return canonical[material];
    }

    int numberOf(int material, int key) {
        canonical(material);
        return numbers[material][key];
    }
}
