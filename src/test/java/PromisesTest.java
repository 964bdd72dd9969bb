/**
 * The document's promises one by one: ordinary inputs, the edges that it names, and wrong inputs. Squares on eight
 * files: a1 is 0, h1 7, a2 8, h8 63; on four files a1 is 0, d1 3, a2 4, d4 15.
 */
public final class PromisesTest {
    private static final Checks CHECKS = new Checks();
    private static final int LEAST = Houses.LEAST;
    private static final int MOST = Houses.MOST;
    private static final int[] NO_TURNS = Houses.NO_TURNS;
    private static final int[] NO_MATERIALS = Houses.NO_MATERIALS;

    public static void main(String[] args) {
        newObject();
        board();
        boardKeepsTheRest();
        make();
        isLegal();
        isLegalOfMen();
        moves();
        movesOfPawns();
        movesOfBlack();
        distance();
        best();
        bestOfDrawnOnes();
        bestPromotions();
        move();
        line();
        lineOfAPawn();
        ply();
        number();
        position();
        count();
        longest();
        throwingChangesNothing();
        noTableNoAnswer();
        feed();
        read();
        readWrongTexts();
        readSmallBoards();
        show();
        out();
        CHECKS.end();
    }

    private static void newObject() {
        EndgameHouse house = new EndgameHouse();
        CHECKS.yes("1: eight files", house.isLegal(0, 63, 0, 15, 1));
        CHECKS.no("1: no ninth rank", house.isLegal(0, 64, 0, 15, 1));
        for (int material = 0; material < 3; material++) {
            int m = material;
            CHECKS.missing("1: no table " + m, () -> house.distance(m, 63, 0, 15, 1));
            CHECKS.missing("1: no positions " + m, () -> house.position(m, 0, 0));
        }
        CHECKS.same("1: the line's position 0", house.ply(0, 0), -1);
        CHECKS.same("1: no move at hand", house.move(0, 0), -1);
        CHECKS.same("1: OUT is empty", house.out(0), -1);
        CHECKS.same("1: the tape is empty", house.read(1), -2);
        CHECKS.same("1: twenty bytes of the tape", house.feed(1, 2, 3, 4, 5), 20);
    }

    private static void board() {
        EndgameHouse house = Houses.of(8, 2);
        house.line(2, 28, 44, 20, 1);
        for (int n : new int[] {3, 9, 0, -4, -8, LEAST, MOST}) {
            CHECKS.no("2: board(" + n + ")", house.board(n));
        }
        CHECKS.yes("2: the board stays", house.isLegal(0, 63, 0, 15, 1));
        CHECKS.same("2: the tables stay", house.distance(1, 18, 0, 15, 0), 3);
        CHECKS.same("2: the line stays", house.ply(36, 4), 1);
        for (int n = 4; n <= 8; n++) {
            CHECKS.yes("2: board(" + n + ")", house.board(n));
            CHECKS.yes("2: its last square", house.isLegal(0, n * n - 1, 0, n, 1));
            CHECKS.no("2: behind its last square", house.isLegal(0, n * n, 0, n, 1));
            CHECKS.same("2: the line has no positions", house.ply(0, 0), -1);
            CHECKS.missing("2: no table", () -> house.count(0, 0, 1));
            CHECKS.yes("2: a table again", house.make(0) > 0);
            CHECKS.missing("2: no other one", () -> house.count(1, 0, 1));
            CHECKS.missing("2: nor a pawn's", () -> house.count(2, 0, 1));
            house.line(0, n * n - 1, 0, 2 * n - 1, 1);
            CHECKS.yes("2: a line again", house.ply(0, 1) == n * n - 1);
        }
        CHECKS.yes("2: the same board", house.board(8));
        CHECKS.missing("2: its table is gone, too", () -> house.distance(0, 18, 0, 27, 1));
        CHECKS.same("2: its line, too", house.ply(0, 0), -1);
        CHECKS.same("2: it can be made again", house.make(0), 46137);
        CHECKS.same("2: as it was", house.distance(0, 18, 0, 27, 1), 4);
    }

    private static void boardKeepsTheRest() {
        EndgameHouse house = Houses.of(8, 0);
        house.best(0, 18, 0, 27, 1);
        house.show(0, 18, 0, 27, 1);
        Houses.fed(house, "Ka4 Qb4 kd1 b");
        house.board(4);
        CHECKS.same("2: moves at hand stay", house.move(1, 1), 8);
        CHECKS.yes("2: OUT stays", Houses.outOf(house).equals("Kc3 Qd4 ka1 b"));
        CHECKS.same("2: the tape stays, and is of this board", house.read(13), 2 * ((12 * 16 + 3) * 16 + 13) + 1);
    }

    private static void make() {
        EndgameHouse house = new EndgameHouse();
        CHECKS.same("3: queen", house.make(0), 46137);
        CHECKS.missing("3: not the rook's", () -> house.count(1, 1, -2));
        CHECKS.same("3: rook", house.make(1), 50015);
        CHECKS.missing("3: not the pawn's", () -> house.count(2, 1, -2));
        CHECKS.same("3: pawn", house.make(2), 165676);
        CHECKS.same("3: again", house.make(0), 46137);
        CHECKS.same("3: the pawn's is still there", house.count(2, 1, -2), 84012);
        for (int material : NO_MATERIALS) {
            CHECKS.same("3: no such material " + material, house.make(material), -1);
        }
        int[][] due = {{378, 443, 1056}, {1955, 2220, 6136}, {0, 0, 23050}, {0, 0, 67418}};
        for (int n = 4; n <= 7; n++) {
            EndgameHouse other = new EndgameHouse();
            other.board(n);
            CHECKS.same("3: a pawn's on " + n, other.make(2), due[n - 4][2]);
            CHECKS.same("3: queen's positions on " + n, other.make(0), other.count(0, 0, -2) + other.count(0, 1, -2));
            CHECKS.same("3: rook's positions on " + n, other.make(1), other.count(1, 0, -2) + other.count(1, 1, -2));
            if (n < 6) {
                CHECKS.same("3: queen's on " + n, other.make(0), due[n - 4][0]);
                CHECKS.same("3: rook's on " + n, other.make(1), due[n - 4][1]);
            }
        }
    }

    private static void isLegal() {
        EndgameHouse house = new EndgameHouse();
        CHECKS.yes("4: Black's turn, attacked", house.isLegal(0, 18, 0, 24, 1));
        CHECKS.no("4: White's turn, attacked", house.isLegal(0, 18, 0, 24, 0));
        CHECKS.no("4: kings on one square", house.isLegal(0, 18, 18, 27, 1));
        CHECKS.no("4: king and man on one square", house.isLegal(0, 18, 0, 18, 1));
        CHECKS.no("4: Black's king and the man on one square", house.isLegal(0, 18, 0, 0, 1));
        CHECKS.no("4: kings next on a rank", house.isLegal(1, 18, 19, 63, 1));
        CHECKS.no("4: kings next on a diagonal", house.isLegal(1, 18, 25, 63, 1));
        CHECKS.yes("4: h1 and a2 are not next", house.isLegal(1, 7, 8, 62, 1));
        CHECKS.yes("4: h1 and a3 are not next", house.isLegal(1, 7, 16, 62, 1));
        for (int square : new int[] {-1, 64, LEAST, MOST}) {
            CHECKS.no("4: no such square for White's king", house.isLegal(0, square, 0, 27, 1));
            CHECKS.no("4: no such square for Black's king", house.isLegal(0, 18, square, 27, 1));
            CHECKS.no("4: no such square for the man", house.isLegal(0, 18, 0, square, 1));
        }
        for (int turn : NO_TURNS) {
            CHECKS.no("4: no such turn", house.isLegal(0, 18, 0, 27, turn));
        }
        for (int material : NO_MATERIALS) {
            CHECKS.no("4: no such material", house.isLegal(material, 18, 0, 27, 1));
        }
    }

    private static void isLegalOfMen() {
        EndgameHouse house = new EndgameHouse();
        CHECKS.no("4: a rook attacks along a rank", house.isLegal(1, 63, 4, 0, 0));
        CHECKS.yes("4: not through White's king", house.isLegal(1, 2, 4, 0, 0));
        CHECKS.yes("4: a rook does not attack on diagonals", house.isLegal(1, 7, 27, 0, 0));
        CHECKS.no("4: a queen does", house.isLegal(0, 7, 27, 0, 0));
        CHECKS.yes("4: not through White's king either", house.isLegal(0, 9, 27, 0, 0));
        CHECKS.yes("4: nor round the board's edge", house.isLegal(1, 63, 8, 7, 0));
        CHECKS.no("4: a pawn attacks ahead, left", house.isLegal(2, 63, 19, 12, 0));
        CHECKS.no("4: a pawn attacks ahead, right", house.isLegal(2, 63, 21, 12, 0));
        CHECKS.yes("4: not straight ahead", house.isLegal(2, 63, 20, 12, 0));
        CHECKS.yes("4: nor behind", house.isLegal(2, 63, 3, 12, 0));
        CHECKS.yes("4: nor round the edge", house.isLegal(2, 63, 16, 15, 0));
        CHECKS.no("4: a pawn on the first rank", house.isLegal(2, 63, 32, 7, 1));
        CHECKS.yes("4: on the second", house.isLegal(2, 63, 32, 8, 1));
        CHECKS.yes("4: on the seventh", house.isLegal(2, 0, 32, 55, 1));
        CHECKS.no("4: on the last rank", house.isLegal(2, 0, 32, 56, 1));
        CHECKS.yes("4: a rook there", house.isLegal(1, 0, 32, 63, 1));
        house.board(4);
        CHECKS.yes("4: a pawn on rank 2 of four files", house.isLegal(2, 0, 3, 11, 1));
        CHECKS.no("4: on rank 3 of four files", house.isLegal(2, 0, 3, 12, 1));
    }

    private static void moves() {
        EndgameHouse house = new EndgameHouse();
        CHECKS.same("5: a queen's and a king's", house.moves(0, 4, 60, 3, 0), 21);
        CHECKS.same("5: a rook beside its king", house.moves(1, 2, 4, 0, 0), 11);
        CHECKS.same("5: not legal", house.moves(0, 18, 0, 24, 0), -1);
        CHECKS.same("5: no such square", house.moves(0, 18, 64, 27, 0), -1);
        for (int turn : NO_TURNS) {
            CHECKS.same("5: no such turn", house.moves(0, 18, 0, 27, turn), -1);
        }
        for (int material : NO_MATERIALS) {
            CHECKS.same("5: no such material", house.moves(material, 18, 0, 27, 1), -1);
        }
        house.board(4);
        CHECKS.same("5: on four files", house.moves(2, 0, 2, 4, 0), 1);
    }

    private static void movesOfPawns() {
        EndgameHouse house = new EndgameHouse();
        CHECKS.same("5: one or two ranks from rank 1", house.moves(2, 0, 63, 12, 0), 5);
        CHECKS.same("5: one rank from rank 2", house.moves(2, 0, 63, 20, 0), 4);
        CHECKS.same("5: one rank from the first square of rank 2", house.moves(2, 7, 63, 16, 0), 4);
        CHECKS.same("5: the second one barred by Black's king", house.moves(2, 0, 28, 12, 0), 4);
        CHECKS.same("5: both barred by it", house.moves(2, 0, 20, 12, 0), 3);
        CHECKS.same("5: the second one barred by White's king", house.moves(2, 28, 63, 12, 0), 9);
        CHECKS.same("5: both barred by it", house.moves(2, 20, 63, 12, 0), 7);
        CHECKS.same("5: four ways to become something", house.moves(2, 0, 7, 52, 0), 7);
        CHECKS.same("5: barred on the last rank", house.moves(2, 0, 60, 52, 0), 3);
        CHECKS.same("5: White without a move", house.moves(2, 56, 50, 48, 0), 0);
        house.board(5);
        CHECKS.same("5: two ranks on five files", house.moves(2, 24, 12, 5, 0), 4);
        house.board(4);
        CHECKS.same("5: not on four files, where it is the last rank", house.moves(2, 15, 13, 4, 0), 2);
    }

    private static void movesOfBlack() {
        EndgameHouse house = new EndgameHouse();
        CHECKS.same("5: a king in the corner", house.moves(0, 18, 0, 27, 1), 2);
        CHECKS.same("5: stalemate", house.moves(0, 2, 0, 17, 1), 0);
        CHECKS.same("5: mate", house.moves(0, 17, 0, 9, 1), 0);
        CHECKS.same("5: not along the rook's rank, on either side", house.moves(1, 63, 4, 0, 1), 3);
        CHECKS.same("5: what White's king hides from the rook", house.moves(1, 2, 4, 0, 1), 3);
        CHECKS.same("5: takes an unguarded man", house.moves(0, 63, 0, 9, 1), 1);
        CHECKS.same("5: takes an unguarded pawn", house.moves(2, 63, 0, 9, 1), 3);
        CHECKS.same("5: not a guarded one", house.moves(2, 11, 0, 10, 1), 3);
        CHECKS.same("5: not where a pawn attacks", house.moves(2, 63, 28, 12, 1), 6);
    }

    private static void distance() {
        EndgameHouse house = Houses.of(8, 2);
        CHECKS.same("6: mate", house.distance(0, 17, 0, 9, 1), 0);
        CHECKS.same("6: stalemate", house.distance(0, 2, 0, 17, 1), -1);
        CHECKS.same("6: White's stalemate", house.distance(2, 56, 50, 48, 0), -1);
        CHECKS.same("6: the man is taken", house.distance(0, 63, 0, 9, 1), -1);
        CHECKS.same("6: a rook's longest", house.distance(1, 0, 18, 9, 1), 32);
        CHECKS.same("6: its image", house.distance(1, 63, 45, 54, 1), 32);
        CHECKS.same("6: a pawn becomes a rook, a queen would draw", house.distance(2, 10, 0, 54, 0), 3);
        CHECKS.same("6: a pawn mates by what it becomes", house.distance(2, 2, 0, 48, 0), 1);
        CHECKS.same("6: the opposition", house.distance(2, 36, 52, 28, 0), -1);
        CHECKS.same("6: with Black's turn", house.distance(2, 36, 52, 28, 1), 28);
        EndgameHouse five = Houses.of(5, 2);
        CHECKS.same("6: no two ranks over White's king", five.distance(2, 11, 23, 6, 0),
                PlainTables.of(5).distanceOf(2, PlainTables.of(5).key(11, 23, 6, 0)));
        CHECKS.missing("6: not legal", () -> house.distance(0, 18, 0, 24, 0));
        CHECKS.missing("6: no such square", () -> house.distance(0, 18, 0, 64, 1));
        CHECKS.missing("6: no such square", () -> house.distance(0, -1, 0, 27, 1));
        for (int turn : NO_TURNS) {
            CHECKS.missing("6: no such turn", () -> house.distance(0, 18, 0, 27, turn));
        }
        for (int material : NO_MATERIALS) {
            CHECKS.missing("6: no such material", () -> house.distance(material, 18, 0, 27, 1));
        }
    }

    private static void sameMove(EndgameHouse house, int k, int... due) {
        for (int what = 0; what < 4; what++) {
            CHECKS.same("7, 8: move(" + k + ", " + what + ")", house.move(k, what), due[what]);
        }
    }

    private static void best() {
        EndgameHouse house = Houses.of(8, 2);
        CHECKS.same("7: of Black, the greatest", house.best(0, 18, 0, 27, 1), 2);
        sameMove(house, 0, 0, 1, -1, 3);
        sameMove(house, 1, 0, 8, -1, 3);
        CHECKS.same("7: of White, the least", house.best(1, 18, 0, 15, 0), 1);
        sameMove(house, 0, 18, 17, -1, 2);
        CHECKS.same("7: by squares", house.best(0, 4, 60, 3, 0), 5);
        sameMove(house, 0, 3, 35, -1, 14);
        sameMove(house, 1, 3, 43, -1, 14);
        CHECKS.same("7: of mate none", house.best(0, 17, 0, 9, 1), 0);
        sameMove(house, 0, -1, -1, -1, -1);
        CHECKS.missing("7: not legal", () -> house.best(0, 18, 0, 24, 0));
        CHECKS.missing("7: no such material", () -> house.best(3, 18, 0, 27, 1));
        CHECKS.missing("7: no such turn", () -> house.best(0, 18, 0, 27, 2));
        CHECKS.missing("7: no such square", () -> house.best(0, 18, 0, 64, 1));
    }

    private static void bestOfDrawnOnes() {
        EndgameHouse house = Houses.of(8, 2);
        CHECKS.same("7: stalemate", house.best(0, 2, 0, 17, 1), 0);
        CHECKS.same("7: White's stalemate", house.best(2, 56, 50, 48, 0), 0);
        CHECKS.same("7: just the taking draws", house.best(0, 63, 0, 9, 1), 1);
        sameMove(house, 0, 0, 9, -1, -1);
        CHECKS.same("7: of five moves the one that draws", house.best(2, 28, 43, 27, 1), 1);
        sameMove(house, 0, 43, 44, -1, -1);
        CHECKS.same("7: all of White's, king first", house.best(2, 0, 51, 52, 0), 7);
        sameMove(house, 0, 0, 1, -1, -1);
        sameMove(house, 1, 0, 8, -1, -1);
        sameMove(house, 2, 0, 9, -1, -1);
        for (int becomes = 0; becomes < 4; becomes++) {
            sameMove(house, 3 + becomes, 52, 60, becomes, -1);
        }
        CHECKS.same("7: all of White's, pawn first", house.best(2, 56, 51, 52, 0), 7);
        for (int becomes = 0; becomes < 4; becomes++) {
            sameMove(house, becomes, 52, 60, becomes, -1);
        }
        sameMove(house, 4, 56, 48, -1, -1);
        sameMove(house, 5, 56, 49, -1, -1);
        sameMove(house, 6, 56, 57, -1, -1);
    }

    private static void bestPromotions() {
        EndgameHouse house = Houses.of(8, 2);
        CHECKS.same("7: a rook alone", house.best(2, 10, 0, 54, 0), 1);
        sameMove(house, 0, 54, 62, 1, 2);
        CHECKS.same("7: queen and rook", house.best(2, 2, 0, 48, 0), 2);
        sameMove(house, 0, 48, 56, 0, 0);
        sameMove(house, 1, 48, 56, 1, 0);
        CHECKS.same("7: a queen alone", house.best(2, 50, 48, 49, 0), 1);
        sameMove(house, 0, 49, 57, 0, 2);
    }

    private static void move() {
        EndgameHouse house = Houses.of(8, 0);
        house.best(0, 18, 0, 27, 1);
        for (int what : new int[] {-1, 4, LEAST, MOST}) {
            CHECKS.same("8: no such what", house.move(0, what), -1);
        }
        for (int k : new int[] {-1, 2, 3, 1 << 30, LEAST, MOST}) {
            CHECKS.same("8: no such move", house.move(k, 1), -1);
        }
        house.line(0, 4, 36, 3, 0);
        house.distance(0, 4, 36, 3, 0);
        house.make(1);
        sameMove(house, 1, 0, 8, -1, 3);
    }

    private static void samePly(EndgameHouse house, int k, int... due) {
        for (int what = 0; what < 5; what++) {
            CHECKS.same("9, 10: ply(" + k + ", " + what + ")", house.ply(k, what), due[what]);
        }
    }

    private static void line() {
        EndgameHouse house = Houses.of(8, 2);
        CHECKS.same("9: plies to mate", house.line(0, 4, 36, 3, 0), 13);
        samePly(house, 0, 0, 4, 36, 3, 0);
        samePly(house, 1, 0, 4, 36, 51, 1);
        CHECKS.same("9: mate at its end", house.distance(0, house.ply(13, 1), house.ply(13, 2), house.ply(13, 3), 1), 0);
        samePly(house, 14, -1, -1, -1, -1, -1);
        CHECKS.same("9: of mate it alone", house.line(0, 17, 0, 9, 1), 0);
        samePly(house, 0, 0, 17, 0, 9, 1);
        samePly(house, 1, -1, -1, -1, -1, -1);
        CHECKS.same("9: of a drawn one it alone", house.line(2, 36, 52, 28, 0), 0);
        samePly(house, 0, 2, 36, 52, 28, 0);
        samePly(house, 1, -1, -1, -1, -1, -1);
        CHECKS.missing("9: not legal", () -> house.line(0, 18, 0, 24, 0));
        CHECKS.missing("9: no such material", () -> house.line(-1, 18, 0, 27, 1));
        CHECKS.missing("9: no such turn", () -> house.line(0, 18, 0, 27, -1));
        CHECKS.missing("9: no such square", () -> house.line(0, 64, 0, 27, 1));
    }

    /** A line follows the first of the best moves, ply by ply, also over what the pawn becomes. */
    private static void lineOfAPawn() {
        EndgameHouse house = Houses.of(8, 2);
        int number = house.longest(2, 1, 1);
        int white = house.position(2, number, 0);
        int black = house.position(2, number, 1);
        int man = house.position(2, number, 2);
        CHECKS.same("9: the longest line", house.line(2, white, black, man, 1), 56);
        for (int k = 0; k < 56; k++) {
            int turn = house.ply(k, 4);
            house.best(house.ply(k, 0), house.ply(k, 1), house.ply(k, 2), house.ply(k, 3), turn);
            boolean byKing = turn == 0 && house.move(0, 0) == house.ply(k, 1);
            boolean byMan = turn == 0 && !byKing;
            int material = house.move(0, 2) == -1 ? house.ply(k, 0) : house.move(0, 2);
            samePly(house, k + 1, material, byKing ? house.move(0, 1) : house.ply(k, 1),
                    turn == 1 ? house.move(0, 1) : house.ply(k, 2), byMan ? house.move(0, 1) : house.ply(k, 3), 1 - turn);
        }
        CHECKS.same("9: the pawn became a queen", house.ply(56, 0), 0);
        CHECKS.same("9: a line over a rook", house.line(2, 10, 0, 54, 0), 3);
        samePly(house, 1, 1, 10, 0, 62, 1);
        samePly(house, 2, 1, 10, 8, 62, 0);
        samePly(house, 3, 1, 10, 8, 56, 1);
    }

    private static void ply() {
        EndgameHouse house = Houses.of(8, 0);
        house.line(0, 18, 0, 27, 1);
        for (int what : new int[] {-1, 5, LEAST, MOST}) {
            CHECKS.same("10: no such what", house.ply(0, what), -1);
        }
        for (int k : new int[] {-1, 5, 6, 1 << 30, LEAST, MOST}) {
            CHECKS.same("10: no such position", house.ply(k, 1), -1);
        }
        house.best(0, 4, 60, 3, 0);
        house.make(2);
        samePly(house, 0, 0, 18, 0, 27, 1);
        CHECKS.same("10: the line stays", house.ply(4, 4), 1);
    }

    private static void number() {
        EndgameHouse house = Houses.of(8, 2);
        CHECKS.same("11: the first one", house.number(0, 0, 2, 1, 1), 0);
        CHECKS.same("11: a queen's", house.number(0, 18, 0, 27, 1), 34812);
        int[][] images = {{18, 0, 28, 1}, {21, 7, 27, 1}, {42, 56, 36, 1}, {45, 63, 35, 1}, {18, 0, 35, 1},
            {21, 7, 36, 1}, {42, 56, 27, 1}, {45, 63, 28, 1}};
        for (int[] image : images) {
            CHECKS.same("11: its images", house.number(0, image[0], image[1], image[2], 1), house.number(0, 18, 0, 28, 1));
        }
        CHECKS.same("11: a pawn's", house.number(2, 36, 52, 28, 1), 102006);
        CHECKS.same("11: in the mirror", house.number(2, 35, 51, 27, 1), 102006);
        CHECKS.yes("11: not upside down", house.number(2, 28, 12, 36, 1) != 102006);
        CHECKS.same("11: the last one", house.number(2, 59, 63, 54, 1), house.number(2, 60, 56, 49, 1));
        CHECKS.missing("11: not legal", () -> house.number(0, 18, 0, 24, 0));
        CHECKS.missing("11: no such material", () -> house.number(3, 18, 0, 27, 1));
        CHECKS.missing("11: no such turn", () -> house.number(0, 18, 0, 27, 2));
        CHECKS.missing("11: no such square", () -> house.number(0, 18, 0, -1, 1));
        house.board(4);
        house.make(2);
        CHECKS.same("11: on four files", house.number(2, 0, 2, 4, 0), 0);
    }

    private static void position() {
        EndgameHouse house = Houses.of(8, 0);
        int[] due = {0, 2, 1, 1, 10};
        for (int what = 0; what < 5; what++) {
            CHECKS.same("12: the first one, " + what, house.position(0, 0, what), due[what]);
        }
        CHECKS.same("12: a drawn one's distance", house.position(0, house.number(0, 2, 0, 17, 1), 4), -1);
        CHECKS.yes("12: the last one", house.position(0, 46136, 0) >= 0);
        for (int k : new int[] {-1, 46137, LEAST, MOST}) {
            CHECKS.same("12: none such", house.position(0, k, 0), -1);
        }
        for (int what : new int[] {-1, 5, LEAST, MOST}) {
            CHECKS.same("12: no such what", house.position(0, 0, what), -1);
        }
        CHECKS.missing("12: not made", () -> house.position(1, 0, 0));
        CHECKS.missing("12: not made, and no such position or what", () -> house.position(2, -1, 9));
        for (int material : NO_MATERIALS) {
            CHECKS.missing("12: no such material", () -> house.position(material, 0, 0));
        }
        for (int files = 4; files <= 6; files++) {
            EndgameHouse other = Houses.of(files, 2);
            for (int material = 0; material < 3; material++) {
                numbersAndPositions(other, material);
            }
        }
    }

    private static void numbersAndPositions(EndgameHouse house, int material) {
        int size = house.make(material);
        for (int k = 0; k < size; k++) {
            int white = house.position(material, k, 0);
            int black = house.position(material, k, 1);
            int man = house.position(material, k, 2);
            int turn = house.position(material, k, 3);
            CHECKS.same("11, 12: there and back", house.number(material, white, black, man, turn), k);
        }
    }

    private static void count() {
        EndgameHouse house = Houses.of(8, 2);
        CHECKS.same("13: mates", house.count(0, 1, 0), 46);
        CHECKS.same("13: mates of a rook", house.count(1, 1, 0), 27);
        CHECKS.same("13: White is never mated", house.count(0, 0, 0), 0);
        CHECKS.same("13: one ply before", house.count(1, 0, 1), 189);
        CHECKS.same("13: drawn", house.count(0, 1, -1), 2896);
        CHECKS.same("13: none drawn", house.count(0, 0, -1), 0);
        CHECKS.same("13: all of White's turn", house.count(0, 0, -2), 18081);
        CHECKS.same("13: all of Black's turn", house.count(0, 1, -2), 28056);
        CHECKS.same("13: better to wait, White", house.count(2, 0, -3), 80);
        CHECKS.same("13: better to wait, Black", house.count(2, 1, -3), 80);
        CHECKS.same("13: never with a queen", house.count(0, 1, -3), 0);
        CHECKS.same("13: the longest", house.count(2, 1, 56), house.count(2, 1, 55) + house.count(2, 1, 56));
        CHECKS.yes("13: there is one", house.count(2, 1, 56) > 0);
        for (int d : new int[] {-4, 57, 126, 127, 128, 1 << 30, LEAST, MOST}) {
            CHECKS.same("13: none have distance " + d, house.count(2, 0, d), 0);
            CHECKS.same("13: none have distance " + d, house.count(2, 1, d), 0);
        }
        int sum = house.count(2, 1, -1);
        for (int d = 0; d <= 56; d++) {
            sum += house.count(2, 1, d);
        }
        CHECKS.same("13: together all", sum, house.count(2, 1, -2));
        for (int turn : NO_TURNS) {
            CHECKS.missing("13: no such turn", () -> house.count(0, turn, 0));
        }
        for (int material : NO_MATERIALS) {
            CHECKS.missing("13: no such material", () -> house.count(material, 0, 0));
        }
    }

    private static void longest() {
        EndgameHouse house = Houses.of(8, 2);
        int[][] due = {{19, 20}, {31, 32}, {55, 56}};
        for (int material = 0; material < 3; material++) {
            for (int turn = 0; turn < 2; turn++) {
                CHECKS.same("14: the greatest distance", house.longest(material, turn, 0), due[material][turn]);
                int first = house.longest(material, turn, 1);
                CHECKS.same("14: its position's", house.position(material, first, 4), due[material][turn]);
                CHECKS.same("14: its turn", house.position(material, first, 3), turn);
                for (int what : new int[] {-1, 2, LEAST, MOST}) {
                    CHECKS.same("14: no such what", house.longest(material, turn, what), -1);
                }
            }
        }
        CHECKS.same("14: the first queen's", house.longest(0, 0, 1), 2304);
        CHECKS.same("14: the first rook's", house.longest(1, 1, 1), 680);
        for (int turn : NO_TURNS) {
            CHECKS.missing("14: no such turn", () -> house.longest(0, turn, 0));
        }
        for (int material : NO_MATERIALS) {
            CHECKS.missing("14: no such material, nor what", () -> house.longest(material, 0, 7));
        }
        house.board(4);
        CHECKS.missing("14: not made", () -> house.longest(0, 0, 0));
    }

    private static void throwingChangesNothing() {
        EndgameHouse house = Houses.of(8, 0);
        house.best(0, 18, 0, 27, 1);
        house.line(0, 18, 0, 27, 1);
        CHECKS.missing("7: not made", () -> house.best(1, 18, 0, 15, 0));
        CHECKS.missing("9: not made", () -> house.line(2, 36, 52, 28, 1));
        CHECKS.missing("7: not legal", () -> house.best(0, 18, 0, 0, 1));
        CHECKS.missing("9: not legal", () -> house.line(0, 18, 0, 0, 1));
        sameMove(house, 1, 0, 8, -1, 3);
        samePly(house, 0, 0, 18, 0, 27, 1);
        CHECKS.same("9: the line stays", house.ply(4, 4), 1);
        CHECKS.missing("6: no table comes of it", () -> house.distance(1, 18, 0, 15, 0));
    }

    private static void noTableNoAnswer() {
        EndgameHouse house = Houses.of(8, 0);
        house.make(1);
        CHECKS.missing("6: a pawn's is not made by the others", () -> house.distance(2, 36, 52, 28, 1));
        CHECKS.missing("7: not made", () -> house.best(2, 36, 52, 28, 1));
        CHECKS.missing("9: not made", () -> house.line(2, 36, 52, 28, 1));
        CHECKS.missing("11: not made", () -> house.number(2, 36, 52, 28, 1));
        CHECKS.missing("13: not made", () -> house.count(2, 0, 1));
        CHECKS.missing("14: not made", () -> house.longest(2, 0, 1));
        CHECKS.same("5: need not be made", house.moves(2, 36, 52, 28, 1), 5);
        CHECKS.same("17: need not be made", house.show(2, 36, 52, 28, 1), 13);
    }

    private static void feed() {
        EndgameHouse house = new EndgameHouse();
        CHECKS.same("15: twenty", house.feed(0, -1, LEAST, MOST, 5), 20);
        CHECKS.same("15: forty", house.feed(1, 2, 3, 4, 5), 40);
        CHECKS.same("15: no more", house.feed(1, 2, 3, 4, 5), -1);
        CHECKS.same("15: nothing came", house.read(41), -2);
        CHECKS.same("15: forty are there", house.read(40), -1);
        CHECKS.same("15: room again", house.feed(1, 2, 3, 4, 5), 20);
        house.read(0);
        CHECKS.same("15: behind the tape", Houses.fed(house, "Kc3 Qd4 ka1 b"), 20);
        CHECKS.same("15: behind the tape", Houses.fed(house, "Ka1 Qd4 kc3 b"), 40);
        CHECKS.same("15: the first ones are the first", house.read(13), 2 * ((18 * 64) * 64 + 27) + 1);
    }

    private static void read() {
        EndgameHouse house = new EndgameHouse();
        CHECKS.same("16: a queen's", Houses.readText(house, "Kc3 Qd4 ka1 b"), 2 * ((18 * 64) * 64 + 27) + 1);
        CHECKS.same("16: the tape is empty then", house.read(1), -2);
        CHECKS.same("16: a rook's", Houses.readText(house, "Kh8 Rh7 ka1 w"), 524288 + 2 * ((63 * 64) * 64 + 55));
        CHECKS.same("16: a pawn's", Houses.readText(house, "Ka1 Ph7 kh8 b"), 2 * 524288 + 2 * (63 * 64 + 55) + 1);
        Houses.fed(house, "Kc3 Qd4 ka1 b");
        for (int n : new int[] {-1, 21, 40, LEAST, MOST}) {
            CHECKS.same("16: the tape has not so many", house.read(n), -2);
        }
        CHECKS.same("16: the tape stayed", house.read(13), 2 * ((18 * 64) * 64 + 27) + 1);
        for (int n : new int[] {0, 12, 14, 20}) {
            Houses.fed(house, "Kc3 Qd4 ka1 b");
            CHECKS.same("16: no text of " + n, house.read(n), -1);
            CHECKS.same("16: the tape is empty all the same", house.read(1), -2);
        }
        CHECKS.same("16: nothing of nothing", house.read(0), -1);
    }

    private static void readWrongTexts() {
        EndgameHouse house = new EndgameHouse();
        String[] wrong = {"kc3 Qd4 ka1 b", "Kc3 Qd4 Ka1 b", "Kc3 qd4 ka1 b", "Kc3 Nd4 ka1 b", "Kc3 Bd4 ka1 b",
            "Kc3 Qd4 ka1 B", "Kc3 Qd4 ka1 x", "Kc3-Qd4 ka1 b", "Kc3 Qd4-ka1 b", "Kc3 Qd4 ka1-b", "KC3 Qd4 ka1 b",
            "Ki3 Qd4 ka1 b", "Kc9 Qd4 ka1 b", "Kc0 Qd4 ka1 b", "Kc3 Qi4 ka1 b", "Kc3 Qd9 ka1 b", "Kc3 Qd4 ki1 b",
            "Kc3 Qd4 ka0 b", "K`3 Qd4 ka1 b", " Kc3 Qd4 ka1 ", "Kc3 ka1 Qd4 b", "Kc3 Qa4 ka1 w", "Kc3 Qc3 ka1 b",
            "Kc3 Qd4 kd4 b", "Kb2 Qd4 ka1 b", "Kc3 Pd1 ka1 b", "Kc3 Pd8 ka1 b", "Kc3 Pb2 ka3 w", "\u00cbc3 Qd4 ka1 b"};
        for (String text : wrong) {
            CHECKS.same("16: " + text, Houses.readText(house, text), -1);
            CHECKS.same("16: the tape is empty then", house.read(1), -2);
        }
    }

    private static void readSmallBoards() {
        EndgameHouse house = new EndgameHouse();
        house.board(4);
        CHECKS.same("16: of this board", Houses.readText(house, "Ka1 Pa2 kc1 w"), 2 * 8192 + 2 * (2 * 16 + 4));
        CHECKS.same("16: its last square", Houses.readText(house, "Kd4 Rd3 ka1 b"), 8192 + 2 * ((15 * 16) * 16 + 11) + 1);
        CHECKS.same("16: no such file", Houses.readText(house, "Ke4 Rd3 ka1 b"), -1);
        CHECKS.same("16: no such rank", Houses.readText(house, "Kd5 Rd3 ka1 b"), -1);
        CHECKS.same("16: a pawn on its last rank", Houses.readText(house, "Ka1 Pa4 kd1 b"), -1);
        house.board(7);
        CHECKS.same("16: on seven files", Houses.readText(house, "Kg7 Pa6 kd1 b"),
                2 * 2 * 49 * 49 * 49 + 2 * ((48 * 49 + 3) * 49 + 35) + 1);
    }

    private static void show() {
        EndgameHouse house = new EndgameHouse();
        CHECKS.same("17: a queen's", house.show(0, 18, 0, 27, 1), 13);
        CHECKS.yes("17: its text", Houses.outOf(house).equals("Kc3 Qd4 ka1 b"));
        CHECKS.same("17: not legal", house.show(0, 18, 0, 24, 0), -1);
        CHECKS.same("17: no such square", house.show(0, 18, 0, 64, 1), -1);
        for (int material : NO_MATERIALS) {
            CHECKS.same("17: no such material", house.show(material, 18, 0, 27, 1), -1);
        }
        for (int turn : NO_TURNS) {
            CHECKS.same("17: no such turn", house.show(0, 18, 0, 27, turn), -1);
        }
        CHECKS.yes("17: OUT stays", Houses.outOf(house).equals("Kc3 Qd4 ka1 b"));
        house.show(1, 63, 0, 55, 0);
        CHECKS.yes("17: a rook's", Houses.outOf(house).equals("Kh8 Rh7 ka1 w"));
        house.board(4);
        CHECKS.yes("17: OUT stays with another board", Houses.outOf(house).equals("Kh8 Rh7 ka1 w"));
        CHECKS.same("17: a pawn's on four files", house.show(2, 15, 0, 11, 0), 13);
        CHECKS.yes("17: its text", Houses.outOf(house).equals("Kd4 Pd3 ka1 w"));
    }

    private static void out() {
        EndgameHouse house = new EndgameHouse();
        CHECKS.same("18: empty", house.out(0), -1);
        house.show(0, 18, 0, 27, 1);
        CHECKS.same("18: the first byte", house.out(0), 'K');
        CHECKS.same("18: the last byte", house.out(12), 'b');
        for (int i : new int[] {-1, 13, 14, LEAST, MOST}) {
            CHECKS.same("18: none such", house.out(i), -1);
        }
    }
}
