/**
 * The edges that the first of the Terms names (boards, squares, NEXT, ATTACKS, LEGAL, MOVES) and with them those of
 * promises 2, 4 and 5. Each method stands for the sentence that its comment holds.
 */
public final class PositionEdgesTest {
    private static final Checks CHECKS = new Checks();
    private static final int LEAST = Houses.LEAST;
    private static final int MOST = Houses.MOST;

    public static void main(String[] args) {
        boardSizes();
        refusedBoards();
        squares();
        materials();
        turns();
        nextOnes();
        notNextRoundTheEdge();
        rookAttacks();
        rookStopsAtKings();
        queenAttacks();
        queenStopsAtKings();
        attacksRoundNoEdge();
        pawnAttacks();
        pawnAttacksAtTheEdges();
        unlikeSquares();
        pawnRanks();
        attackedByTurn();
        whiteKingMoves();
        queenAndRookMoves();
        pawnGoesOneRank();
        pawnGoesTwoRanks();
        pawnBecomesSomething();
        blackKingMoves();
        blackTakes();
        blackShunsAttacks();
        noMoveAtAll();
        movesOfWhatIsNotLegal();
        CHECKS.end();
    }

    private static boolean legal(int files, String text) {
        return Houses.legal(Houses.on(files), Houses.at(files, text));
    }

    private static void sameMoves(int files, String text, int due) {
        int got = Houses.moves(Houses.on(files), Houses.at(files, text));
        CHECKS.same("moves on " + files + " files of " + text, got, due);
    }

    /** White's turn is ruled out by the attack alone: with Black's turn the same squares are LEGAL. */
    private static void attacks(int files, String placed) {
        CHECKS.yes("legal on " + files + " files: " + placed + " b", legal(files, placed + " b"));
        CHECKS.no("attacked on " + files + " files: " + placed + " w", legal(files, placed + " w"));
    }

    private static void attacksNot(int files, String placed) {
        CHECKS.yes("legal on " + files + " files: " + placed + " b", legal(files, placed + " b"));
        CHECKS.yes("not attacked on " + files + " files: " + placed + " w", legal(files, placed + " w"));
    }

    /** "BOARDS have n files and n ranks, n 4 .. 8." "True; false, and all stays, for another n." */
    private static void boardSizes() {
        EndgameHouse house = new EndgameHouse();
        for (int n = -9; n <= 17; n++) {
            CHECKS.same("board(" + n + ")", house.board(n) ? 1 : 0, n >= 4 && n <= 8 ? 1 : 0);
        }
        for (int n : new int[] {64, 1 << 16, 1 << 30, (1 << 30) + 4, LEAST, LEAST + 4, LEAST + 8, MOST}) {
            CHECKS.no("board(" + n + ")", house.board(n));
        }
    }

    /** "False, and all stays": the board, its tables and the line, on each size. */
    private static void refusedBoards() {
        for (int n = 4; n <= 8; n++) {
            EndgameHouse house = Houses.of(n, 0);
            int size = house.make(0);
            house.line(0, n * n - 1, 0, 2 * n - 1, 1);
            for (int wrong : new int[] {3, 9, 0, -1, -n, LEAST, MOST}) {
                CHECKS.no("board(" + wrong + ")", house.board(wrong));
            }
            CHECKS.same("the table stays on " + n, house.number(0, 0, 2, 1, 1), 0);
            CHECKS.yes("all of it on " + n, house.position(0, size - 1, 0) >= 0);
            CHECKS.same("the line stays on " + n, house.ply(0, 1), n * n - 1);
            CHECKS.missing("no other table on " + n, () -> house.position(1, 0, 0));
        }
    }

    /** "SQUARES are n * rank + file, both from 0 on." */
    private static void squares() {
        for (int n = 4; n <= 8; n++) {
            EndgameHouse house = Houses.on(n);
            int last = n * n - 1;
            CHECKS.yes("White's king on the last, Black's on the first", house.isLegal(1, last, 0, n, 1));
            CHECKS.yes("White's king on the first, Black's on the last", house.isLegal(1, 0, last, n, 1));
            CHECKS.yes("the man on the first", house.isLegal(1, last, 2, 0, 1));
            CHECKS.yes("the man on the last", house.isLegal(1, 0, 2, last, 1));
            for (int wrong : new int[] {-1, last + 1, -last, LEAST, MOST, LEAST + n, 1 << 16, 256, 64, -64}) {
                CHECKS.no("White's king on " + wrong, house.isLegal(1, wrong, 0, n, 1));
                CHECKS.no("Black's king on " + wrong, house.isLegal(1, last, wrong, n, 1));
                CHECKS.no("the man on " + wrong, house.isLegal(1, last, 0, wrong, 1));
            }
        }
    }

    /** "MATERIAL is 0: a queen, 1: a rook, 2: a pawn." */
    private static void materials() {
        for (int n = 4; n <= 8; n++) {
            EndgameHouse house = Houses.on(n);
            for (int material = -3; material <= 6; material++) {
                boolean due = material >= 0 && material <= 2;
                CHECKS.same("material " + material, house.isLegal(material, n * n - 1, 0, n, 1) ? 1 : 0, due ? 1 : 0);
            }
            for (int material : new int[] {LEAST, MOST, LEAST + 1, 1 << 30}) {
                CHECKS.no("material " + material, house.isLegal(material, n * n - 1, 0, n, 1));
            }
        }
    }

    /** "Whose turn it is (0 White's, 1 Black's)." */
    private static void turns() {
        EndgameHouse house = new EndgameHouse();
        for (int turn = -3; turn <= 4; turn++) {
            boolean due = turn == 0 || turn == 1;
            CHECKS.same("turn " + turn, house.isLegal(1, 63, 0, 9, turn) ? 1 : 0, due ? 1 : 0);
        }
        for (int turn : new int[] {LEAST, LEAST + 1, MOST, MOST - 1, 1 << 30}) {
            CHECKS.no("turn " + turn, house.isLegal(1, 63, 0, 9, turn));
        }
    }

    /** "NEXT to one another are unlike SQUARES whose files and whose ranks differ by 1 at most." */
    private static void nextOnes() {
        for (int n = 4; n <= 8; n++) {
            EndgameHouse house = Houses.on(n);
            int b2 = n + 1;
            for (int rank = 0; rank < 4; rank++) {
                for (int file = 0; file < 4; file++) {
                    int king = n * rank + file;
                    boolean near = rank <= 2 && file <= 2;
                    if (king != b2 && king != n * n - 1) {
                        boolean legal = house.isLegal(1, king, b2, n * n - 1, 1);
                        CHECKS.same("kings on " + king + " and " + b2, legal ? 1 : 0, near ? 0 : 1);
                    }
                }
            }
        }
    }

    /** The same sentence where squares' numbers are near one another and the squares are not: round the edge. */
    private static void notNextRoundTheEdge() {
        for (int n = 4; n <= 8; n++) {
            EndgameHouse house = Houses.on(n);
            for (int rank = 0; rank < n; rank++) {
                int left = n * rank;
                int right = left + n - 1;
                kingsApart(house, n, left, right);
                kingsApart(house, n, right, left + n);
                kingsApart(house, n, right, left + 2 * n);
                kingsApart(house, n, left, right - n - n);
            }
        }
    }

    private static void kingsApart(EndgameHouse house, int n, int one, int other) {
        if (one < 0 || other < 0 || one >= n * n || other >= n * n) {
            return;
        }
        int man = 0;
        while (man == one || man == other) {
            man++;
        }
        CHECKS.yes("kings on " + one + " and " + other + " of " + n, house.isLegal(1, one, other, man, 1));
        CHECKS.yes("kings on " + other + " and " + one + " of " + n, house.isLegal(1, other, one, man, 1));
    }

    /** "A rook [attacks] all SQUARES on its file and rank", to the edges. */
    private static void rookAttacks() {
        for (String black : new String[] {"d1", "d3", "d5", "d8", "a4", "c4", "e4", "h4"}) {
            attacks(8, "Kg7 Rd4 k" + black);
        }
        for (String black : new String[] {"c3", "e5", "a1", "a7", "g1", "c5", "e3", "e6", "c2", "h5", "a3"}) {
            attacksNot(8, "Kg7 Rd4 k" + black);
        }
        for (int n = 4; n <= 8; n++) {
            String last = Houses.lastFile(n);
            attacks(n, "Kc3 Ra1 k" + last + "1");
            attacks(n, "Kc2 Ra1 ka" + n);
            attacksNot(n, "Kb1 Ra1 k" + last + n);
        }
    }

    /** "In each direction up to the first king, that too." */
    private static void rookStopsAtKings() {
        for (String between : new String[] {"Kb1 Ra1 kd1", "Kf1 Ra1 kh1", "Kg1 Rh1 ke1", "Kc1 Rh1 ka1", "Ka2 Ra1 ka4",
            "Ka6 Ra1 ka8", "Ka7 Ra8 ka5", "Ka3 Ra8 ka1", "Ke4 Rd4 kg4", "Kd6 Rd4 kd8"}) {
            attacksNot(8, between);
        }
        for (String behind : new String[] {"Kh1 Ra1 kf1", "Ka1 Rh1 kc1", "Ka8 Ra1 ka6", "Ka1 Ra8 ka3"}) {
            attacks(8, behind);
        }
    }

    /** "A queen on its diagonals, too." */
    private static void queenAttacks() {
        for (String black : new String[] {"h8", "e5", "a1", "c3", "g1", "e3", "d8", "d1", "h4", "a4"}) {
            attacks(8, "Kb8 Qd4 k" + black);
        }
        attacks(8, "Kb1 Qd4 ka7");
        attacks(8, "Kb1 Qd4 kc5");
        for (String black : new String[] {"e6", "f5", "f3", "e2", "c2", "b3", "b5", "g8"}) {
            attacksNot(8, "Kh5 Qd4 k" + black);
        }
        attacksNot(8, "Ka5 Qd4 kh7");
        attacksNot(8, "Ka5 Qd4 kh2");
        for (int n = 4; n <= 8; n++) {
            attacks(n, "Kc1 Qa1 k" + Houses.lastFile(n) + n);
        }
    }

    /** "Up to the first king, that too", on diagonals. */
    private static void queenStopsAtKings() {
        for (String between : new String[] {"Ke5 Qd4 kg7", "Kf6 Qd4 kh8", "Kc3 Qd4 ka1", "Kc5 Qd4 ka7", "Ke3 Qd4 kg1",
            "Kd5 Qd4 kd7", "Kc4 Qd4 ka4"}) {
            attacksNot(8, between);
        }
        for (String behind : new String[] {"Kh8 Qd4 kf6", "Ka1 Qe5 kc3", "Ka7 Qe3 kc5", "Kg1 Qd4 kb6"}) {
            attacks(8, behind);
        }
    }

    /** "In each direction": no direction goes on behind the board's edge. */
    private static void attacksRoundNoEdge() {
        attacksNot(8, "Kd4 Rh1 ka2");
        attacksNot(8, "Kd4 Ra2 kh1");
        attacksNot(8, "Kd4 Rh7 ka8");
        attacksNot(8, "Kd1 Qh2 ka4");
        attacksNot(8, "Kd8 Qa3 kh1");
        attacksNot(8, "Kd1 Qa2 kh4");
        attacksNot(4, "Kb4 Rd1 ka2");
        attacksNot(4, "Kb1 Qd2 ka4");
        attacksNot(4, "Kb4 Qa3 kd1");
    }

    /** "A pawn [attacks] the SQUARES one rank ahead (rank + 1) on both files beside it." */
    private static void pawnAttacks() {
        attacks(8, "Kh8 Pe2 kd3");
        attacks(8, "Kh8 Pe2 kf3");
        for (String black : new String[] {"e3", "e4", "d2", "f2", "d1", "e1", "f1", "c4", "g4", "c3", "g3", "d4", "f4"}) {
            attacksNot(8, "Kh8 Pe2 k" + black);
        }
        for (int n = 4; n <= 8; n++) {
            int rank = n - 1;
            attacks(n, "Ka1 Pc" + rank + " kd" + n);
            attacks(n, "Kd1 Pc" + rank + " kb" + n);
            attacksNot(n, "Ka1 Pc" + rank + " kc" + n);
        }
    }

    /** "On both files beside it": on the outer files there is one, and none round the edge. */
    private static void pawnAttacksAtTheEdges() {
        for (int n = 4; n <= 8; n++) {
            String last = Houses.lastFile(n);
            String beside = Houses.lastFile(n - 1);
            attacks(n, "Kd1 Pa2 kb3");
            attacks(n, "Ka1 P" + last + "2 k" + beside + "3");
            attacksNot(n, "Kb4 Pa2 k" + last + "2");
            attacksNot(n, "Kb1 Pa2 k" + last + "3");
            attacksNot(n, "Kc1 P" + last + "2 ka4");
            attacksNot(n, "Kc1 P" + last + "2 ka3");
        }
    }

    /** "All three stand on unlike SQUARES." */
    private static void unlikeSquares() {
        EndgameHouse house = new EndgameHouse();
        for (int material = 0; material < 3; material++) {
            for (int turn = 0; turn < 2; turn++) {
                CHECKS.yes("unlike ones", house.isLegal(material, 34, 37, 31, turn));
                CHECKS.no("both kings on one", house.isLegal(material, 34, 34, 31, turn));
                CHECKS.no("White's king and the man on one", house.isLegal(material, 34, 37, 34, turn));
                CHECKS.no("Black's king and the man on one", house.isLegal(material, 34, 37, 37, turn));
                CHECKS.no("all on one", house.isLegal(material, 34, 34, 34, turn));
            }
        }
    }

    /** "A pawn neither on the first nor on the last rank." */
    private static void pawnRanks() {
        for (int n = 4; n <= 8; n++) {
            EndgameHouse house = Houses.on(n);
            for (int man = 0; man < n * n; man++) {
                int white = man == 0 || man == n - 1 ? n * n - 1 : 0;
                int black = man == n * n - 1 || white == n * n - 1 ? n * (n - 1) : n * n - 1;
                boolean inside = man / n != 0 && man / n != n - 1;
                boolean unlike = man != white && man != black;
                CHECKS.same("a pawn on " + man + " of " + n, house.isLegal(2, white, black, man, 1) ? 1 : 0,
                        inside && unlike ? 1 : 0);
                CHECKS.same("a rook on " + man + " of " + n, house.isLegal(1, white, black, man, 1) ? 1 : 0,
                        unlike ? 1 : 0);
            }
        }
    }

    /** "And, if it is White's turn, the MAN does not ATTACK Black's king." */
    private static void attackedByTurn() {
        for (int n = 4; n <= 8; n++) {
            attacks(n, "Kc3 Qa4 ka1");
            attacks(n, "Kc3 Ra2 ka1");
            attacks(n, "Kc1 Pb3 ka4");
        }
    }

    /** "The king goes to a SQUARE NEXT to it": corners, edges, no square NEXT to Black's king, not the man's. */
    private static void whiteKingMoves() {
        for (String corner : new String[] {"Ka1 Ph4 kh5 w", "Kh1 Pa4 ka5 w", "Ka8 Ph4 kh5 w", "Kh8 Pa4 ka5 w"}) {
            sameMoves(8, corner, 3);
        }
        for (String edge : new String[] {"Kd1 Ph4 kh5 w", "Ka4 Ph4 kh5 w", "Kd8 Ph4 kh5 w", "Kh4 Pa4 ka5 w"}) {
            sameMoves(8, edge, 5);
        }
        sameMoves(8, "Kd4 Ph4 kh5 w", 8);
        sameMoves(8, "Kf4 Ph4 kh5 w", 6);
        sameMoves(8, "Kg3 Ph4 kh6 w", 8);
        sameMoves(4, "Ka1 Pd2 kd3 w", 3);
        sameMoves(4, "Kb2 Pd2 kd3 w", 6);
    }

    /** "A queen, a rook go to a SQUARE that they ATTACK", "where no king stands". */
    private static void queenAndRookMoves() {
        sameMoves(8, "Kc6 Qd4 kh2 w", 35);
        sameMoves(8, "Kc6 Qa1 kg5 w", 29);
        sameMoves(8, "Kc6 Rd4 kg5 w", 22);
        sameMoves(8, "Kc6 Ra1 kg5 w", 22);
        sameMoves(8, "Kb1 Ra1 kg5 w", 11);
        sameMoves(8, "Kd1 Ra1 kg5 w", 14);
        sameMoves(8, "Kd1 Ra1 kg1 w", 14);
        sameMoves(8, "Kb2 Qa1 kh8 w", 14 + 7);
        sameMoves(4, "Kc4 Qa1 kd2 w", 9 + 3);
    }

    /** "A pawn goes one rank ahead, if nobody stands there." */
    private static void pawnGoesOneRank() {
        sameMoves(8, "Ka8 Ph3 ka1 w", 4);
        sameMoves(8, "Kh8 Pa3 kh1 w", 4);
        sameMoves(8, "Ka8 Ph3 kh4 w", 3);
        sameMoves(8, "Ka8 Ph3 kh5 w", 4);
        sameMoves(8, "Kh4 Ph3 ka1 w", 4);
        sameMoves(5, "Ka5 Pe3 ka1 w", 4);
        sameMoves(4, "Ka4 Pd2 ka1 w", 4);
    }

    /** "And from rank 1 two ranks ahead, if nobody stands on both and the second one is not the last rank." */
    private static void pawnGoesTwoRanks() {
        for (int n = 5; n <= 8; n++) {
            String last = Houses.lastFile(n);
            sameMoves(n, "Ka" + n + " P" + last + "2 ka1 w", 5);
            sameMoves(n, "K" + last + n + " Pa2 k" + last + "1 w", 5);
            sameMoves(n, "Ka" + n + " P" + last + "2 k" + last + "3 w", 3);
            sameMoves(n, "Ka" + n + " P" + last + "2 k" + last + "4 w", 4);
            sameMoves(n, "K" + last + "3 P" + last + "2 ka1 w", 4);
        }
        sameMoves(8, "Kh4 Ph2 ka1 w", 6);
        sameMoves(4, "Ka4 Pd2 ka1 w", 4);
        sameMoves(4, "Kd4 Pa2 kd1 w", 4);
        sameMoves(4, "Ka1 Pd2 kd4 w", 4);
    }

    /** "On the last rank it becomes a queen, a rook, a bishop or a knight (four MOVES)." */
    private static void pawnBecomesSomething() {
        for (int n = 4; n <= 8; n++) {
            String last = Houses.lastFile(n);
            int rank = n - 1;
            sameMoves(n, "Ka" + n + " P" + last + rank + " ka1 w", 7);
            sameMoves(n, "K" + last + n + " Pa" + rank + " k" + last + "1 w", 7);
            sameMoves(n, "Ka1 P" + last + rank + " k" + last + n + " w", 3);
            sameMoves(n, "K" + last + n + " P" + last + rank + " ka1 w", 2);
        }
        sameMoves(8, "Ka8 Ph6 ka1 w", 4);
    }

    /** "Of Black: the king goes to a SQUARE NEXT to it", and "the kings are not NEXT to one another". */
    private static void blackKingMoves() {
        sameMoves(8, "Kh8 Ph2 ka1 b", 3);
        sameMoves(8, "Kh8 Ph2 ka8 b", 3);
        sameMoves(8, "Kh8 Ph2 kd1 b", 5);
        sameMoves(8, "Kh8 Ph2 ka4 b", 5);
        sameMoves(8, "Kh8 Ph2 kd5 b", 8);
        sameMoves(8, "Kd3 Ph2 kd5 b", 5);
        sameMoves(8, "Kb3 Ph2 kd5 b", 7);
        sameMoves(4, "Ka1 Pa2 kd4 b", 3);
    }

    /** "Also to that of the MAN, which it TAKES", "where the MAN was TAKEN [..] the kings are not NEXT". */
    private static void blackTakes() {
        sameMoves(8, "Kh8 Pd4 kd5 b", 6);
        sameMoves(8, "Kd3 Pd4 kd5 b", 3);
        sameMoves(8, "Kh8 Rd4 ke5 b", 4);
        sameMoves(8, "Kc3 Rd4 ke5 b", 3);
        sameMoves(8, "Kh8 Qb2 ka1 b", 1);
        sameMoves(8, "Kc3 Qb2 ka1 b", 0);
        sameMoves(4, "Kd4 Qb2 ka1 b", 1);
        sameMoves(4, "Kb3 Rb2 ka1 b", 0);
    }

    /** "What comes of it has to be LEGAL": also where the king itself stood in the man's way, or White's king does. */
    private static void blackShunsAttacks() {
        sameMoves(8, "Kh8 Ra4 kd4 b", 6);
        sameMoves(8, "Kh8 Rd1 kd4 b", 6);
        sameMoves(8, "Kh8 Qa1 kd4 b", 6);
        sameMoves(8, "Kh8 Qg1 kd4 b", 6);
        sameMoves(8, "Kb1 Ra1 kd1 b", 3);
        sameMoves(8, "Kh8 Pd3 kd5 b", 6);
        sameMoves(8, "Kh8 Pc3 kd5 b", 7);
        sameMoves(8, "Kh8 Pa4 ka6 b", 4);
    }

    /** "MATE: [..] it has no MOVE. Without a MOVE otherwise (White's, too) it is STALEMATE." */
    private static void noMoveAtAll() {
        for (String none : new String[] {"Kb3 Qb2 ka1 b", "Kb3 Rh1 kb1 b", "Kb3 Rb2 ka1 b", "Kc1 Qb3 ka1 b",
            "Kd6 Pd7 kd8 b", "Ka8 Pa7 kc7 w", "Kh8 Ph7 kf8 w"}) {
            sameMoves(8, none, 0);
        }
        for (String none : new String[] {"Kb3 Qb2 ka1 b", "Kb3 Rd1 kb1 b", "Kc1 Qb3 ka1 b", "Kb2 Pb3 kb4 b",
            "Ka4 Pa3 kc3 w", "Kd4 Pd3 kb4 w"}) {
            sameMoves(4, none, 0);
        }
    }

    /** "NONE, if it is not LEGAL": whatever is wrong with it. */
    private static void movesOfWhatIsNotLegal() {
        for (String text : new String[] {"Kc3 Qc3 ka1 b", "Kc3 Qa1 ka1 b", "Kc3 Qd4 kc3 b", "Kc3 Qd4 kb4 b",
            "Kc3 Qa4 ka1 w", "Kc3 Pd1 ka1 b", "Kc3 Pd8 ka1 b", "Kc3 Pb2 ka3 w"}) {
            sameMoves(8, text, -1);
        }
        EndgameHouse house = new EndgameHouse();
        for (int wrong : new int[] {-1, 64, LEAST, MOST}) {
            CHECKS.same("no such square", house.moves(0, wrong, 0, 27, 1), -1);
            CHECKS.same("no such square", house.moves(0, 18, wrong, 27, 1), -1);
            CHECKS.same("no such square", house.moves(0, 18, 0, wrong, 1), -1);
        }
        for (int wrong : Houses.NO_TURNS) {
            CHECKS.same("no such turn", house.moves(0, 18, 0, 27, wrong), -1);
        }
        for (int wrong : Houses.NO_MATERIALS) {
            CHECKS.same("no such material", house.moves(wrong, 18, 0, 27, 1), -1);
        }
    }
}
