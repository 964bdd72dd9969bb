import java.util.ArrayList;
import java.util.List;
import java.util.NoSuchElementException;
import java.util.function.Consumer;
import java.util.function.ToIntFunction;

/**
 * "A call that throws changes nothing", a refused call changes nothing, a call that only tells changes nothing, and
 * each other call changes what its promise names and no more. A state is all that can be asked of an object: its
 * board, the tables that are made, the best moves and the line at hand, OUT, and the tape.
 */
public final class StateTest {
    private static final Checks CHECKS = new Checks();
    private static final int LEAST = Houses.LEAST;
    private static final int MOST = Houses.MOST;
    /** What a call answers when it throws; no call of the face answers this number. */
    private static final int THROWS = -1000;
    private static final int FILES = 5;
    private static final int SQUARES = FILES * FILES;
    private static final int[] NO_SQUARES = {-1, SQUARES, 63, 64, LEAST, MOST};

    /** A call that needs a whole position. */
    private interface Asking {
        int ask(EndgameHouse house, int[] at);
    }

    public static void main(String[] args) {
        wrongPositions();
        tablesThatAreNotMade();
        refusedOthers();
        callsThatTell();
        boardChanges();
        makeChanges();
        bestChanges();
        lineChanges();
        feedAndReadChange();
        showChanges();
        fiveHundredAndTwelveCalls();
        CHECKS.end();
    }

    /** Five files, some tables, best moves, a line, OUT, and a tape with a text at its start. */
    private static EndgameHouse laid(boolean pawnToo) {
        EndgameHouse house = Houses.of(FILES, pawnToo ? 2 : 0);
        house.best(0, 12, 0, 24, 1);
        house.line(0, 12, 0, 24, 1);
        Houses.show(house, Houses.at(FILES, "Ka1 Re5 kc1 b"));
        Houses.fed(house, "Kc3 Qe5 ka1 b");
        return house;
    }

    private static List<Integer> stateOf(EndgameHouse house) {
        List<Integer> state = new ArrayList<>(untouchedState(house));
        // Reading empties the tape, so that it comes last.
        state.add(house.read(21));
        state.add(house.read(13));
        return state;
    }

    private static List<Integer> untouchedState(EndgameHouse house) {
        List<Integer> state = new ArrayList<>();
        for (int square : new int[] {15, 24, 35, 48, 63, 64}) {
            state.add(house.isLegal(1, square, 0, 3, 1) ? 1 : 0);
        }
        for (int material = 0; material < 3; material++) {
            int m = material;
            state.add(answer(house, asked -> asked.position(m, 0, 2)));
            state.add(answer(house, asked -> asked.longest(m, 1, 1)));
        }
        for (int i = 0; i < 4 * 12; i++) {
            state.add(house.move(i / 4, i % 4));
        }
        for (int i = 0; i < 5 * 24; i++) {
            state.add(house.ply(i / 5, i % 5));
        }
        for (int i = 0; i < 14; i++) {
            state.add(house.out(i));
        }
        return state;
    }

    private static int answer(EndgameHouse house, ToIntFunction<EndgameHouse> call) {
        try {
            return call.applyAsInt(house);
        } catch (NoSuchElementException thrown) {
            return THROWS;
        }
    }

    private static void changesNothing(String call, boolean pawnToo, int due, ToIntFunction<EndgameHouse> asked) {
        EndgameHouse house = laid(pawnToo);
        CHECKS.same(call, answer(house, asked), due);
        CHECKS.yes(call + " changes nothing", stateOf(house).equals(stateOf(laid(pawnToo))));
    }

    /** The seven calls that take a whole position, each with one that is wrong and what is due then. */
    private static void refused(String what, boolean pawnToo, int[] at) {
        refused("distance", what, pawnToo, at, THROWS, Houses::distance);
        refused("best", what, pawnToo, at, THROWS, Houses::best);
        refused("line", what, pawnToo, at, THROWS, Houses::line);
        refused("number", what, pawnToo, at, THROWS, Houses::number);
        refused("moves", what, pawnToo, at, -1, Houses::moves);
        refused("show", what, pawnToo, at, -1, Houses::show);
        refused("isLegal", what, pawnToo, at, 0, (house, wrong) -> Houses.legal(house, wrong) ? 1 : 0);
    }

    private static void refused(String call, String what, boolean pawnToo, int[] at, int due, Asking asking) {
        changesNothing(call + " with " + what, pawnToo, due, house -> asking.ask(house, at));
    }

    /** "There is no such MATERIAL [..]; no such SQUARE, no such turn, or the POSITION is not LEGAL." */
    private static void wrongPositions() {
        for (int wrong : Houses.NO_MATERIALS) {
            refused("material " + wrong, true, new int[] {wrong, 12, 0, 24, 1});
        }
        for (int wrong : Houses.NO_TURNS) {
            refused("turn " + wrong, true, new int[] {0, 12, 0, 24, wrong});
        }
        for (int wrong : NO_SQUARES) {
            refused("White's king on " + wrong, true, new int[] {0, wrong, 0, 24, 1});
            refused("Black's king on " + wrong, true, new int[] {0, 12, wrong, 24, 1});
            refused("the man on " + wrong, true, new int[] {0, 12, 0, wrong, 1});
        }
        for (String text : new String[] {"Kc3 Qe5 kc3 b", "Kc3 Qc3 ka1 b", "Kc3 Qa1 ka1 b", "Kc3 Qe5 kb2 b",
            "Kc3 Qe5 kd4 w", "Kc3 Qa4 ka1 w", "Kc3 Re1 ka1 w", "Kc1 Pb3 ka4 w", "Kc3 Pd1 ka1 b", "Kc3 Pd5 ka1 b"}) {
            refused(text, true, Houses.at(FILES, text));
        }
    }

    /** "Or its table is not made (of a pawn's: those of queen and rook are made, too)." */
    private static void tablesThatAreNotMade() {
        for (String text : new String[] {"Kc3 Re5 ka1 b", "Kc3 Pd3 ka1 b"}) {
            int[] at = Houses.at(FILES, text);
            refused("distance", text, false, at, THROWS, Houses::distance);
            refused("best", text, false, at, THROWS, Houses::best);
            refused("line", text, false, at, THROWS, Houses::line);
            refused("number", text, false, at, THROWS, Houses::number);
        }
        for (int material : new int[] {1, 2, -1, 3, LEAST, MOST}) {
            String of = " of material " + material;
            changesNothing("position" + of, false, THROWS, house -> house.position(material, 0, 0));
            changesNothing("position -1" + of, false, THROWS, house -> house.position(material, -1, 9));
            changesNothing("count" + of, false, THROWS, house -> house.count(material, 0, -2));
            changesNothing("longest" + of, false, THROWS, house -> house.longest(material, 0, 0));
            changesNothing("longest 9" + of, false, THROWS, house -> house.longest(material, 0, 9));
        }
        EndgameHouse both = Houses.of(FILES, 0);
        both.make(1);
        CHECKS.missing("a pawn's is not made with the others", () -> both.position(2, 0, 0));
    }

    private static void refusedOthers() {
        for (int n : new int[] {3, 9, 0, -1, -5, LEAST, MOST}) {
            changesNothing("board(" + n + ")", true, 0, house -> house.board(n) ? 1 : 0);
        }
        for (int material : Houses.NO_MATERIALS) {
            changesNothing("make(" + material + ")", false, -1, house -> house.make(material));
        }
        for (int turn : Houses.NO_TURNS) {
            changesNothing("count, turn " + turn, true, THROWS, house -> house.count(0, turn, 1));
            changesNothing("longest, turn " + turn, true, THROWS, house -> house.longest(0, turn, 0));
        }
        for (int k : new int[] {-1, 1 << 30, LEAST, MOST}) {
            changesNothing("move(" + k + ", 0)", true, -1, house -> house.move(k, 0));
            changesNothing("move(0, 4)", true, -1, house -> house.move(0, 4));
            changesNothing("ply(" + k + ", 0)", true, -1, house -> house.ply(k, 0));
            changesNothing("ply(0, 5)", true, -1, house -> house.ply(0, 5));
            changesNothing("position(0, " + k + ", 0)", true, -1, house -> house.position(0, k, 0));
            changesNothing("position(0, 0, 5)", true, -1, house -> house.position(0, 0, 5));
            changesNothing("longest(0, 0, " + k + ")", true, -1, house -> house.longest(0, 0, k));
            changesNothing("out(" + k + ")", true, -1, house -> house.out(k));
            changesNothing("read(" + k + ")", true, -2, house -> house.read(k));
        }
        changesNothing("read(21)", true, -2, house -> house.read(21));
        EndgameHouse full = laid(true);
        Houses.fed(full, "Ka1 Qe5 kc1 b");
        List<Integer> before = untouchedState(full);
        CHECKS.same("feed of what is full", full.feed(1, 2, 3, 4, 5), -1);
        CHECKS.yes("changes nothing", before.equals(untouchedState(full)));
        CHECKS.same("nor the tape", full.read(41), -2);
        CHECKS.same("nor its first text", full.read(13), Houses.keyWithMaterial(FILES, Houses.at(FILES, "Kc3 Qe5 ka1 b")));
    }

    private static void tells(String call, Consumer<EndgameHouse> asked) {
        EndgameHouse house = laid(true);
        asked.accept(house);
        CHECKS.yes(call + " changes nothing", stateOf(house).equals(stateOf(laid(true))));
    }

    private static void callsThatTell() {
        int[] at = Houses.at(FILES, "Kb2 Re5 kd4 b");
        tells("isLegal", house -> Houses.legal(house, at));
        tells("moves", house -> Houses.moves(house, at));
        tells("distance", house -> Houses.distance(house, at));
        tells("number", house -> Houses.number(house, at));
        tells("position", house -> house.position(1, 7, 4));
        tells("count", house -> house.count(2, 0, -3));
        tells("longest", house -> house.longest(1, 0, 1));
        tells("move", house -> house.move(0, 3));
        tells("ply", house -> house.ply(1, 3));
        tells("out", house -> house.out(3));
        tells("make of what is made", house -> house.make(2));
        tells("a queen's, made again", house -> house.make(0));
    }

    /** Where in a state what stands: board, tables, moves, line, OUT; the tape is read behind them. */
    private static void sameParts(String call, List<Integer> got, List<Integer> due, int... parts) {
        int[] ends = {0, 6, 12, 60, 180, 194};
        for (int part : parts) {
            CHECKS.yes(call + " leaves part " + part,
                    got.subList(ends[part], ends[part + 1]).equals(due.subList(ends[part], ends[part + 1])));
        }
    }

    /** "No table is made then, the line has no positions": the moves at hand, OUT and the tape are not named. */
    private static void boardChanges() {
        for (int n = 4; n <= 8; n++) {
            EndgameHouse house = laid(true);
            List<Integer> before = untouchedState(house);
            CHECKS.yes("board(" + n + ")", house.board(n));
            List<Integer> after = untouchedState(house);
            sameParts("board", after, before, 2, 4);
            for (int i = 6; i < 12; i++) {
                CHECKS.same("no table", after.get(i), THROWS);
            }
            for (int i = 60; i < 180; i++) {
                CHECKS.same("no line", after.get(i), -1);
            }
            CHECKS.same("the tape stays", house.read(21), -2);
            CHECKS.same("and is as it was", house.read(20), -1);
        }
    }

    private static void makeChanges() {
        for (int material = 1; material < 3; material++) {
            EndgameHouse house = laid(false);
            List<Integer> before = untouchedState(house);
            house.make(material);
            List<Integer> after = untouchedState(house);
            sameParts("make", after, before, 0, 2, 3, 4);
            CHECKS.same("the queen's stays", after.get(7), before.get(7));
            CHECKS.yes("the rook's is made", after.get(8) != THROWS);
            CHECKS.same("the pawn's is made with its own", after.get(10) != THROWS ? 2 : 1, material);
            CHECKS.yes("the tape stays", house.read(13) >= 0);
        }
    }

    private static void bestChanges() {
        EndgameHouse house = laid(true);
        List<Integer> before = untouchedState(house);
        Houses.best(house, Houses.at(FILES, "Kb2 Re5 kd4 w"));
        List<Integer> after = untouchedState(house);
        sameParts("best", after, before, 0, 1, 3, 4);
        CHECKS.no("the moves at hand are others", after.subList(12, 60).equals(before.subList(12, 60)));
        CHECKS.yes("the tape stays", house.read(13) >= 0);
    }

    private static void lineChanges() {
        EndgameHouse house = laid(true);
        List<Integer> before = untouchedState(house);
        Houses.line(house, Houses.at(FILES, "Kb2 Re5 kd4 w"));
        List<Integer> after = untouchedState(house);
        sameParts("line", after, before, 0, 1, 2, 4);
        CHECKS.no("the line at hand is another", after.subList(60, 180).equals(before.subList(60, 180)));
        CHECKS.yes("the tape stays", house.read(13) >= 0);
    }

    private static void feedAndReadChange() {
        EndgameHouse house = laid(true);
        List<Integer> before = untouchedState(house);
        CHECKS.same("feed", house.feed(1, 2, 3, 4, 5), 40);
        CHECKS.yes("feed changes the tape alone", before.equals(untouchedState(house)));
        CHECKS.yes("read", house.read(13) >= 0);
        CHECKS.yes("read changes the tape alone", before.equals(untouchedState(house)));
        CHECKS.same("it is empty", house.read(1), -2);
    }

    private static void showChanges() {
        EndgameHouse house = laid(true);
        List<Integer> before = untouchedState(house);
        house.show(2, 12, 0, 13, 1);
        List<Integer> after = untouchedState(house);
        sameParts("show", after, before, 0, 1, 2, 3);
        CHECKS.yes("OUT is another", Houses.outOf(house).equals("Kc3 Pd3 ka1 b"));
        CHECKS.yes("the tape stays", house.read(13) >= 0);
    }

    /** "An object is used for at most 512 calls after it has been made": the last one answers like the first. */
    private static void fiveHundredAndTwelveCalls() {
        EndgameHouse house = new EndgameHouse();
        for (int i = 0; i < 102; i++) {
            house.board(4 + i % 5);
            house.make(2);
            house.best(1, 15, 0, 3, 1);
            house.line(2, 2, 0, 8, 1);
            Houses.fed(house, "Kc3 Qd4 ka1 b");
        }
        house.board(8);
        CHECKS.same("call 512", house.make(2), 165676);
    }
}
