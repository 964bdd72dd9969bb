import java.util.Arrays;

/**
 * The edges that the Terms name of tables (DISTANCE, BEST MOVES, LINES, numbers) and with them those of promises 3 and
 * 6 to 14. Each method stands for the sentence that its comment holds.
 */
public final class TableEdgesTest {
    private static final Checks CHECKS = new Checks();
    private static final int LEAST = Houses.LEAST;
    private static final int MOST = Houses.MOST;
    private static final int[] NO_DISTANCES = {-4, -5, -128, 57, 58, 125, 126, 127, 128, 255, 256, 1 << 30, LEAST,
        LEAST + 1, MOST, MOST - 1};

    public static void main(String[] args) {
        makesOne();
        makesAllForAPawn();
        makesNoneOfNoMaterial();
        makesAnew();
        mates();
        whiteCountsTheLeast();
        blackCountsTheGreatest();
        pawnsRun();
        pawnsBecomeSomethingNow();
        drawnOnes();
        bestOfNone();
        bestOfTheMostMoves();
        bestOfDrawnOnes();
        bestInOrder();
        movesAtHandAreTheLast();
        noMoveAtHand();
        lineOfNoPlies();
        longestLines();
        lineAtHandIsTheLast();
        noPlyAtHand();
        eightImages();
        twoImages();
        ownImages();
        firstAndLastNumbers();
        keysInOrder();
        noSuchNumber();
        countsOfNothing();
        countsOfAll();
        countsOfWaiting();
        longestDistances();
        noSuchWhat();
        CHECKS.end();
    }

    private static int distance(EndgameHouse house, int files, String text) {
        return Houses.distance(house, Houses.at(files, text));
    }

    private static int best(EndgameHouse house, int files, String text) {
        return Houses.best(house, Houses.at(files, text));
    }

    private static int line(EndgameHouse house, int files, String text) {
        return Houses.line(house, Houses.at(files, text));
    }

    private static void sameMove(EndgameHouse house, int k, int... due) {
        for (int what = 0; what < 4; what++) {
            CHECKS.same("move(" + k + ", " + what + ")", house.move(k, what), due[what]);
        }
    }

    private static void samePly(EndgameHouse house, int k, int... due) {
        for (int what = 0; what < 5; what++) {
            CHECKS.same("ply(" + k + ", " + what + ")", house.ply(k, what), due[what]);
        }
    }

    private static void noMove(EndgameHouse house, int k) {
        sameMove(house, k, -1, -1, -1, -1);
    }

    private static void noPly(EndgameHouse house, int k) {
        samePly(house, k, -1, -1, -1, -1, -1);
    }

    private static void whetherMade(EndgameHouse house, int material, boolean due) {
        if (due) {
            CHECKS.yes("made: " + material, house.position(material, 0, 0) >= 0);
            return;
        }
        CHECKS.missing("position of what is not made: " + material, () -> house.position(material, 0, 0));
        CHECKS.missing("count of what is not made: " + material, () -> house.count(material, 0, -2));
        CHECKS.missing("longest of what is not made: " + material, () -> house.longest(material, 0, 0));
        CHECKS.missing("distance of what is not made: " + material, () -> house.distance(material, 15, 0, 4, 1));
        CHECKS.missing("best of what is not made: " + material, () -> house.best(material, 15, 0, 4, 1));
        CHECKS.missing("line of what is not made: " + material, () -> house.line(material, 15, 0, 4, 1));
        CHECKS.missing("number of what is not made: " + material, () -> house.number(material, 15, 0, 4, 1));
    }

    /** "The table of a MATERIAL is made": of queen and rook that one alone; both do not make a pawn's. */
    private static void makesOne() {
        EndgameHouse house = Houses.on(4);
        for (int material = 0; material < 3; material++) {
            whetherMade(house, material, false);
        }
        CHECKS.same("a rook's on four files", house.make(1), 443);
        whetherMade(house, 0, false);
        whetherMade(house, 1, true);
        whetherMade(house, 2, false);
        CHECKS.same("a queen's on four files", house.make(0), 378);
        whetherMade(house, 0, true);
        whetherMade(house, 1, true);
        whetherMade(house, 2, false);
        EndgameHouse other = Houses.of(4, 0);
        whetherMade(other, 0, true);
        whetherMade(other, 1, false);
        whetherMade(other, 2, false);
    }

    /** "Of a pawn's those of queen and rook as well." */
    private static void makesAllForAPawn() {
        for (int before = -1; before < 3; before++) {
            EndgameHouse house = Houses.on(4);
            house.make(before);
            CHECKS.same("a pawn's on four files", house.make(2), 1056);
            for (int material = 0; material < 3; material++) {
                whetherMade(house, material, true);
            }
        }
    }

    /** "NONE: no such MATERIAL." */
    private static void makesNoneOfNoMaterial() {
        EndgameHouse house = Houses.on(4);
        for (int material : new int[] {-1, -2, 3, 4, 255, 256, 1 << 30, LEAST, LEAST + 1, MOST}) {
            CHECKS.same("make(" + material + ")", house.make(material), -1);
        }
        for (int material = 0; material < 3; material++) {
            whetherMade(house, material, false);
        }
    }

    /** "How many CANONICAL LEGAL POSITIONS it has", each time, and "no table is made then" after board(). */
    private static void makesAnew() {
        EndgameHouse house = new EndgameHouse();
        for (int n : new int[] {4, 5, 4, 4, 6, 5}) {
            house.board(n);
            for (int material = 0; material < 3; material++) {
                whetherMade(house, material, false);
            }
            for (int material = 0; material < 3; material++) {
                int due = PlainTables.of(n).canonical(material).length;
                CHECKS.same("make(" + material + ") on " + n, house.make(material), due);
                CHECKS.same("make(" + material + ") again on " + n, house.make(material), due);
            }
        }
    }

    /** "Of MATE 0": and only of it. */
    private static void mates() {
        for (int n = 4; n <= 8; n++) {
            String last = Houses.lastFile(n);
            EndgameHouse house = Houses.of(n, 2);
            CHECKS.same("a queen's mate on " + n, distance(house, n, "Kb3 Qb2 ka1 b"), 0);
            CHECKS.same("a rook's mate on " + n, distance(house, n, "Kb3 R" + last + "1 kb1 b"), 0);
            CHECKS.yes("mates of queen and rook", house.count(0, 1, 0) > 0 && house.count(1, 1, 0) > 0);
            CHECKS.same("a pawn never mates on " + n, house.count(2, 1, 0), 0);
            for (int material = 0; material < 3; material++) {
                CHECKS.same("White is never mated on " + n, house.count(material, 0, 0), 0);
            }
        }
    }

    /** "White's turn: 1 more than the least DISTANCE of what its MOVES go to (of what has none nothing counts)." */
    private static void whiteCountsTheLeast() {
        for (int n = 4; n <= 8; n++) {
            String last = Houses.lastFile(n);
            EndgameHouse house = Houses.of(n, 2);
            String text = "Kb3 Q" + last + "2 ka1 w";
            CHECKS.same("mate is one ply away on " + n, distance(house, n, text), 1);
            CHECKS.yes("and it is a best move", best(house, n, text) >= 1);
            CHECKS.same("that goes to mate", house.move(0, 3), 0);
            CHECKS.same("Kc1 would be stalemate on " + n, distance(house, n, "Kc1 Qb3 ka1 b"), -1);
            CHECKS.yes("and counts nothing before it", distance(house, n, "Kd1 Qb3 ka1 w") > 0);
        }
    }

    /** "Black's turn: if it has MOVES, and all go to what has a DISTANCE: 1 more than the greatest one." */
    private static void blackCountsTheGreatest() {
        EndgameHouse house = Houses.of(8, 2);
        CHECKS.same("two moves", distance(house, 8, "Kc3 Qd4 ka1 b"), 4);
        CHECKS.same("the one", distance(house, 8, "Kc3 Qd4 kb1 w"), 3);
        CHECKS.same("the other", distance(house, 8, "Kc3 Qd4 ka2 w"), 3);
        CHECKS.same("one of its moves draws", distance(house, 8, "Ke4 Pd4 kd6 b"), -1);
        CHECKS.same("no move", distance(house, 8, "Kd6 Pd7 kd8 b"), -1);
        CHECKS.same("one move", distance(house, 8, "Kb6 Pb7 ka8 b"), 10);
    }

    /** "From rank 1 two ranks ahead": on both outer files a pawn wins by them alone, and one rank further on draws. */
    private static void pawnsRun() {
        EndgameHouse house = Houses.of(8, 2);
        for (String file : new String[] {"a", "h"}) {
            String black = file.equals("a") ? "e" : "d";
            String second = "Ka1 P" + file + "2 k" + black + "2 w";
            CHECKS.same("distance of " + second, distance(house, 8, second), 27);
            CHECKS.same("its best move", best(house, 8, second), 1);
            CHECKS.same("goes two ranks", house.move(0, 1) - house.move(0, 0), 16);
            String third = "Ka1 P" + file + "3 k" + black + "3 w";
            CHECKS.same("distance of " + third, distance(house, 8, third), -1);
        }
    }

    /** "It becomes a queen, a rook": what comes of it counts, from the first pair of kings to the last. */
    private static void pawnsBecomeSomethingNow() {
        for (int n = 4; n <= 8; n++) {
            String last = Houses.lastFile(n);
            String third = Houses.lastFile(n - 2);
            for (String kings : new String[] {"Ka1 P%s kc1 w", "K" + last + n + " P%s k" + third + n + " w",
                "K" + last + "1 P%s k" + third + "1 w"}) {
                EndgameHouse house = Houses.of(n, 2);
                for (int file = 0; file < n; file++) {
                    int[] at = Houses.at(n, String.format(kings, "" + (char) ('a' + file) + (n - 1)));
                    int goal = at[3] + n;
                    if (Houses.legal(house, at) && goal != at[1] && goal != at[2]) {
                        int far = Houses.distance(house, at);
                        int queen = house.distance(0, at[1], at[2], goal, 1);
                        int rook = house.distance(1, at[1], at[2], goal, 1);
                        CHECKS.yes("no further than by a queen", queen < 0 || far >= 0 && far <= queen + 1);
                        CHECKS.yes("no further than by a rook", rook < 0 || far >= 0 && far <= rook + 1);
                    }
                }
            }
        }
    }

    /** "Where the MAN was TAKEN, or is a bishop or knight, there is none." "POSITIONS without one are DRAWN." */
    private static void drawnOnes() {
        for (int n = 4; n <= 8; n++) {
            String last = Houses.lastFile(n);
            EndgameHouse house = Houses.of(n, 2);
            CHECKS.same("takes the queen, its one move", distance(house, n, "K" + last + n + " Qb2 ka1 b"), -1);
            CHECKS.same("takes the rook, one of its moves", distance(house, n, "K" + last + n + " Rb2 ka1 b"), -1);
            CHECKS.same("takes the pawn", distance(house, n, "K" + last + n + " Pb2 ka1 b"), -1);
            CHECKS.same("stalemate by a queen", distance(house, n, "Kc1 Qb3 ka1 b"), -1);
            CHECKS.same("stalemate by a rook", distance(house, n, "Kb3 Rb2 ka1 b"), -1);
            int rank = n - 1;
            int third = n - 2;
            CHECKS.same("stalemate by a pawn", distance(house, n, "Kb" + third + " Pb" + rank + " kb" + n + " b"), -1);
            CHECKS.same("White's stalemate", distance(house, n, "Ka" + n + " Pa" + rank + " kc" + rank + " w"), -1);
        }
    }

    /** "BEST MOVES of a POSITION are at hand: how many": of MATE and STALEMATE none. */
    private static void bestOfNone() {
        EndgameHouse house = Houses.of(8, 2);
        for (String text : new String[] {"Kb3 Qb2 ka1 b", "Kb3 Rh1 kb1 b", "Kc1 Qb3 ka1 b", "Kb3 Rb2 ka1 b",
            "Kd6 Pd7 kd8 b", "Ka8 Pa7 kc7 w"}) {
            best(house, 8, "Ke1 Qd1 ke8 w");
            CHECKS.same("best of " + text, best(house, 8, text), 0);
            noMove(house, 0);
        }
    }

    /** A queen's 27 moves and a king's 8 are the most that there can be. */
    private static void bestOfTheMostMoves() {
        EndgameHouse house = Houses.of(8, 0);
        CHECKS.same("35 moves", Houses.moves(house, Houses.at(8, "Kc6 Qd4 kh2 w")), 35);
        CHECKS.same("best of them", best(house, 8, "Kc6 Qd4 kh2 w"), 2);
        sameMove(house, 0, 27, 30, -1, 8);
        sameMove(house, 1, 27, 54, -1, 8);
        noMove(house, 2);
    }

    /** "Of a DRAWN one those that go to what has none": a taking, a piece that can't mate, the one way to draw. */
    private static void bestOfDrawnOnes() {
        EndgameHouse house = Houses.of(8, 2);
        CHECKS.same("the taking alone", best(house, 8, "Kh8 Qb2 ka1 b"), 1);
        sameMove(house, 0, 0, 9, -1, -1);
        CHECKS.same("the taking among others", best(house, 8, "Kh8 Rd4 ke5 b"), 1);
        sameMove(house, 0, 36, 27, -1, -1);
        CHECKS.same("all four that a pawn becomes", best(house, 8, "Ka1 Pe7 kd7 w"), 7);
        for (int becomes = 0; becomes < 4; becomes++) {
            sameMove(house, 3 + becomes, 52, 60, becomes, -1);
        }
        noMove(house, 7);
        EndgameHouse four = Houses.of(4, 2);
        CHECKS.same("on four files, too", best(four, 4, "Ka1 Pc3 kb3 w"), 5);
        sameMove(four, 0, 0, 1, -1, -1);
        for (int becomes = 0; becomes < 4; becomes++) {
            sameMove(four, 1 + becomes, 10, 14, becomes, -1);
        }
        noMove(four, 5);
    }

    /** "In order by the SQUARE from which, then to which, then queen, rook, bishop, knight." */
    private static void bestInOrder() {
        EndgameHouse house = Houses.of(8, 2);
        int[] numbers = new int[40];
        for (String text : new String[] {"Ka1 Pe7 kd7 w", "Ka8 Pe7 kd7 w", "Ke1 Qd1 ke8 w", "Ke5 Pe4 ke7 w",
            "Kc1 Pc7 ka8 w", "Kb3 Qh2 ka1 w", "Kc6 Qd4 kh2 w", "Kh8 Pa2 ka4 w", "Kh1 Pa2 ka4 w"}) {
            int size = best(house, 8, text);
            for (int k = 0; k < size; k++) {
                numbers[k] = (house.move(k, 0) * 64 + house.move(k, 1)) * 8 + house.move(k, 2) + 1;
            }
            for (int k = 1; k < size; k++) {
                CHECKS.yes("best move " + k + " of " + text + " is behind the one before", numbers[k - 1] < numbers[k]);
            }
            noMove(house, size);
        }
    }

    /** "BEST MOVES of a POSITION are at hand": those of earlier positions are not. */
    private static void movesAtHandAreTheLast() {
        EndgameHouse house = Houses.of(8, 2);
        CHECKS.same("five", best(house, 8, "Ke1 Qd1 ke8 w"), 5);
        CHECKS.same("then one", best(house, 8, "Kc3 Rh2 ka1 w"), 1);
        sameMove(house, 0, 18, 17, -1, 2);
        for (int k = 1; k < 6; k++) {
            noMove(house, k);
        }
        CHECKS.same("then five again", best(house, 8, "Ke1 Qd1 ke8 w"), 5);
        CHECKS.same("the first one", house.move(0, 1), 35);
        CHECKS.yes("the last one", house.move(4, 1) >= 0);
    }

    /** "NONE if there is none such, or for another what": of a new object, too. */
    private static void noMoveAtHand() {
        EndgameHouse house = new EndgameHouse();
        noMove(house, 0);
        house.make(0);
        noMove(house, 0);
        house.best(0, 18, 0, 27, 1);
        for (int k : new int[] {-1, -2, 2, 3, 35, 36, 37, 1 << 28, 1 << 29, 1 << 30, (1 << 30) + 1, LEAST, MOST}) {
            noMove(house, k);
        }
        for (int what : new int[] {-1, -4, 4, 5, 8, 1 << 30, LEAST, MOST}) {
            CHECKS.same("move(0, " + what + ")", house.move(0, what), -1);
            CHECKS.same("move(1, " + what + ")", house.move(1, what), -1);
            CHECKS.same("move(-1, " + what + ")", house.move(-1, what), -1);
        }
    }

    /** "Up to MATE; from a DRAWN POSITION: just it alone." */
    private static void lineOfNoPlies() {
        EndgameHouse house = Houses.of(8, 2);
        for (String text : new String[] {"Kb3 Qb2 ka1 b", "Kb3 Rh1 kb1 b", "Kc1 Qb3 ka1 b", "Kd6 Pd7 kd8 b",
            "Ka8 Pa7 kc7 w", "Ke5 Pe4 ke7 w", "Kh8 Qb2 ka1 b", "Ka1 Pe7 kd7 w"}) {
            line(house, 8, "Ke1 Qd1 ke5 w");
            CHECKS.same("plies of " + text, line(house, 8, text), 0);
            samePly(house, 0, Houses.at(8, text));
            noPly(house, 1);
            noPly(house, -1);
        }
    }

    /** "How many plies": as many as its DISTANCE, to the longest of each board, and MATE at the end. */
    private static void longestLines() {
        for (int n = 4; n <= 8; n++) {
            for (int material = 0; material < 3; material++) {
                EndgameHouse house = Houses.of(n, 2);
                int far = house.longest(material, 1, 0);
                int first = house.longest(material, 1, 1);
                int[] at = {material, house.position(material, first, 0), house.position(material, first, 1),
                    house.position(material, first, 2), 1};
                CHECKS.same("plies of the longest on " + n, Houses.line(house, at), far);
                samePly(house, 0, at);
                for (int k = 0; k <= far; k++) {
                    int[] on = {house.ply(k, 0), house.ply(k, 1), house.ply(k, 2), house.ply(k, 3), house.ply(k, 4)};
                    CHECKS.same("turns go to and fro", on[4], k % 2 == 0 ? 1 : 0);
                    CHECKS.same("a ply nearer to mate", Houses.distance(house, on), far - k);
                }
                noPly(house, far + 1);
            }
        }
    }

    /** "The LINE from a POSITION is at hand": those of earlier positions are not. */
    private static void lineAtHandIsTheLast() {
        EndgameHouse house = Houses.of(8, 2);
        CHECKS.same("36 plies", line(house, 8, "Ke4 Pe3 ke6 b"), 36);
        CHECKS.same("then four", line(house, 8, "Kc3 Qd4 ka1 b"), 4);
        samePly(house, 0, Houses.at(8, "Kc3 Qd4 ka1 b"));
        CHECKS.same("mate's turn", house.ply(4, 4), 1);
        for (int k = 5; k <= 37; k++) {
            noPly(house, k);
        }
    }

    /** "NONE if there is none such, or for another what"; "the line has no positions" at first and after board(). */
    private static void noPlyAtHand() {
        EndgameHouse house = new EndgameHouse();
        noPly(house, 0);
        house.make(0);
        noPly(house, 0);
        house.line(0, 18, 0, 27, 1);
        for (int k : new int[] {-1, -2, 5, 6, 126, 127, 128, 1 << 28, 1 << 30, LEAST, MOST, 858993460, -858993459}) {
            noPly(house, k);
        }
        for (int what : new int[] {-1, -5, 5, 6, 10, 1 << 30, LEAST, MOST}) {
            CHECKS.same("ply(0, " + what + ")", house.ply(0, what), -1);
            CHECKS.same("ply(1, " + what + ")", house.ply(1, what), -1);
            CHECKS.same("ply(4, " + what + ")", house.ply(4, what), -1);
        }
        house.board(8);
        for (int k = 0; k < 5; k++) {
            noPly(house, k);
        }
    }

    private static int turned(int n, int square) {
        return n * (n - 1 - square % n) + square / n;
    }

    private static int mirrored(int n, int square) {
        return n * (square / n) + n - 1 - square % n;
    }

    private static int[] turned(int n, int[] at) {
        return new int[] {at[0], turned(n, at[1]), turned(n, at[2]), turned(n, at[3]), at[4]};
    }

    private static int[] mirrored(int n, int[] at) {
        return new int[] {at[0], mirrored(n, at[1]), mirrored(n, at[2]), mirrored(n, at[3]), at[4]};
    }

    /** "IMAGES: of a queen's and a rook's POSITION the eight": each has the number and the distance of all. */
    private static void eightImages() {
        for (int n = 4; n <= 8; n++) {
            EndgameHouse house = Houses.of(n, 1);
            house.make(0);
            for (String text : new String[] {"Kb1 Qa3 kd2 b", "Kb1 Rc3 kd2 w", "Ka1 Rd4 kc2 b", "Kb2 Rd1 kd4 b"}) {
                int[] image = Houses.at(n, text);
                int number = Houses.number(house, image);
                int distance = Houses.distance(house, image);
                for (int turn = 0; turn < 4; turn++) {
                    image = turned(n, image);
                    CHECKS.same("number, turned", Houses.number(house, image), number);
                    CHECKS.same("distance, turned", Houses.distance(house, image), distance);
                    CHECKS.same("number, in a mirror", Houses.number(house, mirrored(n, image)), number);
                    CHECKS.same("distance, in a mirror", Houses.distance(house, mirrored(n, image)), distance);
                }
            }
        }
    }

    /** "Of a pawn's two: itself, and that in which each file is n - 1 less it." */
    private static void twoImages() {
        for (int n = 4; n <= 8; n++) {
            EndgameHouse house = Houses.of(n, 2);
            for (String text : new String[] {"Ka1 Pb2 kd1 w", "Kb3 Pb2 kd2 b", "Kc1 Pa3 ka1 w"}) {
                int[] image = Houses.at(n, text);
                int number = Houses.number(house, image);
                CHECKS.same("in the mirror", Houses.number(house, mirrored(n, image)), number);
                CHECKS.same("its distance", Houses.distance(house, mirrored(n, image)), Houses.distance(house, image));
                for (int turn = 1; turn < 4; turn++) {
                    image = turned(n, image);
                    if (Houses.legal(house, image)) {
                        CHECKS.yes("turned it is another one", Houses.number(house, image) != number);
                    }
                    if (Houses.legal(house, mirrored(n, image))) {
                        CHECKS.yes("so in the mirror", Houses.number(house, mirrored(n, image)) != number);
                    }
                }
            }
        }
    }

    /** "CANONICAL is, of its IMAGES, that with the least KEY": also where some of the eight are one. */
    private static void ownImages() {
        for (int n = 4; n <= 8; n++) {
            EndgameHouse house = Houses.of(n, 0);
            int first = house.number(0, 0, n * n - 1, n + 1, 1);
            CHECKS.same("kings in corners, man on their diagonal", house.position(0, first, 0), 0);
            CHECKS.same("Black's king", house.position(0, first, 1), n * n - 1);
            CHECKS.same("the man", house.position(0, first, 2), n + 1);
            CHECKS.same("the other diagonal", house.number(0, n - 1, n * (n - 1), 2 * n - 2, 1), first);
            int beside = house.number(0, 0, n * n - 1, n, 1);
            CHECKS.same("man beside the diagonal, on the lesser square", house.position(0, beside, 2), 1);
            CHECKS.same("its image", house.number(0, 0, n * n - 1, 1, 1), beside);
        }
    }

    /** "Numbered from 0 on by their KEYS": the first and the last of each table, and no other behind them. */
    private static void firstAndLastNumbers() {
        for (int n = 4; n <= 8; n++) {
            EndgameHouse house = Houses.of(n, 2);
            PlainTables plain = PlainTables.of(n);
            for (int material = 0; material < 3; material++) {
                int size = house.make(material);
                for (int k : new int[] {0, 1, size / 2, size - 2, size - 1}) {
                    int key = plain.canonical(material)[k];
                    int[] at = {plain.whiteOf(key), plain.blackOf(key), plain.manOf(key), plain.turnOf(key)};
                    for (int what = 0; what < 4; what++) {
                        CHECKS.same("position " + k + ", " + what, house.position(material, k, what), at[what]);
                    }
                    CHECKS.same("its distance", house.position(material, k, 4),
                            house.distance(material, at[0], at[1], at[2], at[3]));
                    CHECKS.same("its number", house.number(material, at[0], at[1], at[2], at[3]), k);
                }
                for (int what = 0; what < 5; what++) {
                    CHECKS.same("before the first", house.position(material, -1, what), -1);
                    CHECKS.same("behind the last", house.position(material, size, what), -1);
                }
            }
        }
    }

    /** "The KEY of a POSITION is 2 * ((white king * S + black king) * S + man) and its turn." */
    private static void keysInOrder() {
        for (int material = 0; material < 3; material++) {
            int before = -1;
            int size = Houses.of(4, 2).make(material);
            for (int k = 0; k < size; k++) {
                // Always a new object: one speaks for 512 calls.
                EndgameHouse house = Houses.of(4, 2);
                int key = 2 * ((house.position(material, k, 0) * 16 + house.position(material, k, 1)) * 16
                        + house.position(material, k, 2)) + house.position(material, k, 3);
                CHECKS.yes("key " + k + " of material " + material + " is greater than the one before", key > before);
                before = key;
            }
        }
    }

    /** position(): "NONE if there is none such, or for another what." */
    private static void noSuchNumber() {
        EndgameHouse house = Houses.of(8, 0);
        for (int k : new int[] {-1, -2, 46137, 46138, 1 << 20, 1 << 30, LEAST, MOST}) {
            for (int what = -1; what < 6; what++) {
                CHECKS.same("position(0, " + k + ", " + what + ")", house.position(0, k, what), -1);
            }
        }
        for (int what : new int[] {-1, -2, 5, 6, 256, LEAST, MOST}) {
            CHECKS.same("position(0, 0, " + what + ")", house.position(0, 0, what), -1);
            CHECKS.same("position(0, 46136, " + what + ")", house.position(0, 46136, what), -1);
        }
        for (int material : Houses.NO_MATERIALS) {
            CHECKS.missing("position(" + material + ", 0, 0)", () -> house.position(material, 0, 0));
            CHECKS.missing("position(" + material + ", -1, 9)", () -> house.position(material, -1, 9));
        }
    }

    /** "How many CANONICAL LEGAL POSITIONS of a MATERIAL and a turn have a DISTANCE d": none have such a one. */
    private static void countsOfNothing() {
        EndgameHouse house = Houses.of(8, 2);
        for (int d : NO_DISTANCES) {
            for (int material = 0; material < 3; material++) {
                CHECKS.same("count of " + d, house.count(material, 0, d), 0);
                CHECKS.same("count of " + d, house.count(material, 1, d), 0);
            }
        }
        for (int material = 0; material < 3; material++) {
            for (int turn = 0; turn < 2; turn++) {
                int far = house.longest(material, turn, 0);
                CHECKS.yes("count of the greatest", house.count(material, turn, far) > 0);
                CHECKS.same("count of one more", house.count(material, turn, far + 1), 0);
                CHECKS.same("White's are odd, Black's even", house.count(material, turn, far - 1), 0);
            }
        }
    }

    /** "Of d NONE: are DRAWN; of d -2: are there": together with the others they make up all. */
    private static void countsOfAll() {
        for (int n = 4; n <= 8; n++) {
            EndgameHouse house = Houses.of(n, 2);
            for (int material = 0; material < 3; material++) {
                int[] sums = new int[2];
                for (int turn = 0; turn < 2; turn++) {
                    for (int d = -1; d <= 60; d++) {
                        sums[turn] += house.count(material, turn, d);
                    }
                    CHECKS.same("all of a turn on " + n, sums[turn], house.count(material, turn, -2));
                }
                CHECKS.same("all on " + n, Arrays.stream(sums).sum(), house.make(material));
                CHECKS.yes("Black draws some on " + n, house.count(material, 1, -1) > 0);
            }
        }
    }

    /** "Of d -3: [..] White's: it is DRAWN, with Black's turn DECIDED; Black's: it is DECIDED, with White's DRAWN." */
    private static void countsOfWaiting() {
        int[] due = {5, 7, 15, 45, 80};
        for (int n = 4; n <= 8; n++) {
            EndgameHouse house = Houses.of(n, 2);
            for (int turn = 0; turn < 2; turn++) {
                CHECKS.same("a queen's that wait on " + n, house.count(0, turn, -3), 0);
                CHECKS.same("a rook's that wait on " + n, house.count(1, turn, -3), 0);
                CHECKS.same("a pawn's that wait on " + n, house.count(2, turn, -3), due[n - 4]);
            }
        }
    }

    /** "The greatest DISTANCE in a MATERIAL's table with a turn, what 0; 1: the number of the first with it." */
    private static void longestDistances() {
        int[][] distances = {{7, 8, 13, 14, 19, 20}, {11, 12, 19, 20, 21, 20}, {13, 14, 23, 24, 31, 32},
            {15, 16, 27, 28, 45, 46}, {19, 20, 31, 32, 55, 56}};
        int[][] numbers = {{24, 0, 98, 64, 63, 64}, {203, 105, 160, 2, 1607, 121}, {639, 459, 236, 0, 1229, 5212},
            {1092, 759, 415, 0, 11774, 21056}, {2304, 1852, 1339, 680, 24246, 44471}};
        for (int n = 4; n <= 8; n++) {
            EndgameHouse house = Houses.of(n, 2);
            for (int i = 0; i < 6; i++) {
                int material = i / 2;
                int turn = i % 2;
                CHECKS.same("greatest distance on " + n, house.longest(material, turn, 0), distances[n - 4][i]);
                CHECKS.same("the first with it on " + n, house.longest(material, turn, 1), numbers[n - 4][i]);
            }
        }
    }

    /** longest(): "NONE for another what. NoSuchElementException as of count()." */
    private static void noSuchWhat() {
        EndgameHouse house = Houses.of(4, 2);
        for (int what : new int[] {-1, -2, 2, 3, 256, LEAST, MOST}) {
            for (int material = 0; material < 3; material++) {
                CHECKS.same("longest, what " + what, house.longest(material, 0, what), -1);
                CHECKS.same("longest, what " + what, house.longest(material, 1, what), -1);
            }
            CHECKS.missing("no such turn, nor what", () -> house.longest(0, 2, what));
            CHECKS.missing("no such material, nor what", () -> house.longest(3, 0, what));
        }
        for (int turn : Houses.NO_TURNS) {
            CHECKS.missing("longest, turn " + turn, () -> house.longest(0, turn, 0));
            for (int d : new int[] {-3, -2, -1, 0, 1}) {
                CHECKS.missing("count, turn " + turn, () -> house.count(0, turn, d));
            }
        }
        for (int material : Houses.NO_MATERIALS) {
            CHECKS.missing("longest, material " + material, () -> house.longest(material, 0, 0));
            for (int d : new int[] {-3, -2, -1, 0, 1}) {
                CHECKS.missing("count, material " + material, () -> house.count(material, 0, d));
            }
        }
    }
}
