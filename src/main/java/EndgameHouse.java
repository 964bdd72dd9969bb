import java.util.Arrays;
import java.util.NoSuchElementException;

/**
 * A house of endgames: king and queen, king and rook, king and pawn against a king, on square boards of four to
 * eight files. No board has more than 64 squares, so a set of squares is a long: bit s stands for square s.
 */
public final class EndgameHouse {
    public static final int NONE = -1;

    private static final int QUEEN = 0;
    private static final int ROOK = 1;
    private static final int PAWN = 2;
    private static final int MATERIALS = 3;
    private static final int WHITE = 0;
    private static final int BLACK = 1;
    private static final int FEWEST_FILES = 4;
    private static final int MOST_FILES = 8;
    /** Queen, rook, bishop and knight. */
    private static final int PROMOTIONS = 4;
    /** Tables hold distances as bytes; the greatest one on any of the boards is 56. */
    private static final int MOST_DISTANCE = 126;
    private static final int TAPE_BYTES = 40;
    private static final int FED_BYTES = 20;
    private static final int TEXT_BYTES = 13;
    private static final int NO_SUCH_LENGTH = -2;
    private static final int ALL_OF_A_TURN = -2;
    private static final int BETTER_TO_WAIT = -3;
    private static final int PLY_NUMBERS = 5;
    private static final char[] MAN_LETTERS = {'Q', 'R', 'P'};
    private static final char[] TURN_LETTERS = {'w', 'b'};

    /** Boards stay when another one is laid, so that no table of an object is worked out twice. */
    private final Board[] boards = new Board[MOST_FILES + 1];
    private Board board;
    private final boolean[] made = new boolean[MATERIALS];
    private final Choices hand = new Choices();
    private final Place handPlace = new Place();
    private final Choices lineChoices = new Choices();
    private final Place linePlace = new Place();
    private final int[] plies = new int[(MOST_DISTANCE + 1) * PLY_NUMBERS];
    private int linePositions;
    private final int[] tape = new int[TAPE_BYTES];
    private int tapeBytes;
    private final int[] shown = new int[TEXT_BYTES];
    private int shownBytes;

    public EndgameHouse() {
        board = new Board(MOST_FILES);
        boards[MOST_FILES] = board;
    }

    public boolean board(int n) {
        if (n < FEWEST_FILES || n > MOST_FILES) {
            return false;
        }
        if (boards[n] == null) {
            boards[n] = new Board(n);
        }
        board = boards[n];
        for (int material = QUEEN; material < MATERIALS; material++) {
            made[material] = false;
        }
        linePositions = 0;
        return true;
    }

    public int make(int material) {
        if (material < QUEEN || material > PAWN) {
            return NONE;
        }
        if (material == PAWN) {
            board.prepare(QUEEN);
            board.prepare(ROOK);
            made[QUEEN] = true;
            made[ROOK] = true;
        }
        made[material] = true;
        return board.prepare(material).size();
    }

    public boolean isLegal(int material, int white, int black, int man, int turn) {
        return board.allows(material, white, black, man, turn);
    }

    public int moves(int material, int white, int black, int man, int turn) {
        if (!board.allows(material, white, black, man, turn)) {
            return NONE;
        }
        if (turn == BLACK) {
            return Long.bitCount(board.blackTargets(material, white, black, man));
        }
        int ofMan = Long.bitCount(board.manTargets(material, white, black, man));
        int each = material == PAWN && board.isLastRank(man + board.files) ? PROMOTIONS : 1;
        return Long.bitCount(board.whiteTargets(white, black, man)) + each * ofMan;
    }

    public int distance(int material, int white, int black, int man, int turn) throws NoSuchElementException {
        return demandTable(material, white, black, man, turn).look(white, black, man, turn);
    }

    public int best(int material, int white, int black, int man, int turn) throws NoSuchElementException {
        int far = demandTable(material, white, black, man, turn).look(white, black, man, turn);
        handPlace.set(material, white, black, man, turn);
        gather(hand, handPlace);
        hand.keep(goalAfter(far));
        return hand.size;
    }

    public int move(int k, int what) {
        return hand.tell(k, what);
    }

    public int line(int material, int white, int black, int man, int turn) throws NoSuchElementException {
        int far = demandTable(material, white, black, man, turn).look(white, black, man, turn);
        linePlace.set(material, white, black, man, turn);
        linePositions = 0;
        addToLine(linePlace);
        for (int left = far; left > 0; left--) {
            gather(lineChoices, linePlace);
            lineChoices.keep(goalAfter(left));
            if (lineChoices.size == 0) {
                break;
            }
            linePlace.play(lineChoices);
            addToLine(linePlace);
        }
        return linePositions - 1;
    }

    public int ply(int k, int what) {
        if (k < 0 || k >= linePositions || what < 0 || what >= PLY_NUMBERS) {
            return NONE;
        }
        return plies[k * PLY_NUMBERS + what];
    }

    public int number(int material, int white, int black, int man, int turn) throws NoSuchElementException {
        return demandTable(material, white, black, man, turn).numberOf(white, black, man, turn);
    }

    public int position(int material, int k, int what) throws NoSuchElementException {
        Table table = demandMade(material);
        int cell = table.cellNumbered(k);
        return cell == NONE ? NONE : table.tell(cell, what);
    }

    public int count(int material, int turn, int d) throws NoSuchElementException {
        Table table = demandTurn(material, turn);
        switch (d) {
            case NONE:
                return table.drawn[turn];
            case ALL_OF_A_TURN:
                return table.all[turn];
            case BETTER_TO_WAIT:
                return table.betterToWait;
            default:
                return table.howManyAt(turn, d);
        }
    }

    public int longest(int material, int turn, int what) throws NoSuchElementException {
        Table table = demandTurn(material, turn);
        if (what == 0) {
            return table.farthest[turn];
        }
        return what == 1 ? table.firstFarthest[turn] : NONE;
    }

    public int feed(int a, int b, int c, int d, int e) {
        if (tapeBytes + FED_BYTES > TAPE_BYTES) {
            return NONE;
        }
        addToTape(a);
        addToTape(b);
        addToTape(c);
        addToTape(d);
        addToTape(e);
        return tapeBytes;
    }

    public int read(int n) {
        if (n < 0 || n > tapeBytes) {
            return NO_SUCH_LENGTH;
        }
        tapeBytes = 0;
        return n == TEXT_BYTES ? keyOfText() : NONE;
    }

    public int show(int material, int white, int black, int man, int turn) {
        if (!board.allows(material, white, black, man, turn)) {
            return NONE;
        }
        showSquare(0, 'K', white);
        showSquare(4, MAN_LETTERS[material], man);
        showSquare(8, 'k', black);
        shown[12] = TURN_LETTERS[turn];
        shownBytes = TEXT_BYTES;
        return shownBytes;
    }

    public int out(int i) {
        return i < 0 || i >= shownBytes ? NONE : shown[i];
    }

    private Table demandMade(int material) {
        Table table = material < QUEEN || material > PAWN || !made[material] ? null : board.tables[material];
        if (table == null) {
            throw new NoSuchElementException("no such table");
        }
        return table;
    }

    private Table demandTurn(int material, int turn) {
        if (turn != WHITE && turn != BLACK) {
            throw new NoSuchElementException("no such turn");
        }
        return demandMade(material);
    }

    private Table demandTable(int material, int white, int black, int man, int turn) {
        if (!board.allows(material, white, black, man, turn)) {
            throw new NoSuchElementException("no such position");
        }
        return demandMade(material);
    }

    /** What best moves of a position with this distance go to: a drawn one is held, a decided one comes nearer. */
    private static int goalAfter(int far) {
        return far == NONE ? NONE : far - 1;
    }

    private void gather(Choices choices, Place at) {
        choices.size = 0;
        if (at.turn == BLACK) {
            gatherBlack(choices, at);
        } else if (at.white < at.man) {
            gatherKing(choices, at);
            gatherMan(choices, at);
        } else {
            gatherMan(choices, at);
            gatherKing(choices, at);
        }
    }

    private void gatherBlack(Choices choices, Place at) {
        long targets = board.blackTargets(at.material, at.white, at.black, at.man);
        for (long rest = targets; rest != 0; rest &= rest - 1) {
            int to = lowest(rest);
            int far = to == at.man ? NONE : lookUp(at.material, at.white, to, at.man, WHITE);
            choices.add(at.black, to, NONE, far);
        }
    }

    private void gatherKing(Choices choices, Place at) {
        long targets = board.whiteTargets(at.white, at.black, at.man);
        for (long rest = targets; rest != 0; rest &= rest - 1) {
            int to = lowest(rest);
            choices.add(at.white, to, NONE, lookUp(at.material, to, at.black, at.man, BLACK));
        }
    }

    private void gatherMan(Choices choices, Place at) {
        long targets = board.manTargets(at.material, at.white, at.black, at.man);
        for (long rest = targets; rest != 0; rest &= rest - 1) {
            int to = lowest(rest);
            if (at.material == PAWN && board.isLastRank(to)) {
                gatherPromotions(choices, at, to);
            } else {
                choices.add(at.man, to, NONE, lookUp(at.material, at.white, at.black, to, BLACK));
            }
        }
    }

    private void gatherPromotions(Choices choices, Place at, int to) {
        for (int becomes = QUEEN; becomes < PROMOTIONS; becomes++) {
            boolean canMate = becomes <= ROOK;
            choices.add(at.man, to, becomes, canMate ? lookUp(becomes, at.white, at.black, to, BLACK) : NONE);
        }
    }

    private int lookUp(int material, int white, int black, int man, int turn) {
        Table table = board.tables[material];
        return table == null ? NONE : table.look(white, black, man, turn);
    }

    private void addToLine(Place at) {
        int start = linePositions * PLY_NUMBERS;
        if (start + PLY_NUMBERS > plies.length) {
            return;
        }
        plies[start] = at.material;
        plies[start + 1] = at.white;
        plies[start + 2] = at.black;
        plies[start + 3] = at.man;
        plies[start + 4] = at.turn;
        linePositions++;
    }

    private void addToTape(int four) {
        for (int shift = 24; shift >= 0; shift -= 8) {
            tape[tapeBytes] = four >>> shift & 255;
            tapeBytes++;
        }
    }

    private int keyOfText() {
        int material = letterAt(MAN_LETTERS, tape[4]);
        int turn = letterAt(TURN_LETTERS, tape[12]);
        int white = squareOfText(1);
        int man = squareOfText(5);
        int black = squareOfText(9);
        boolean framed = tape[0] == 'K' && tape[3] == ' ' && tape[7] == ' ' && tape[8] == 'k' && tape[11] == ' ';
        if (!framed || !board.allows(material, white, black, man, turn)) {
            return NONE;
        }
        int s = board.squares;
        return 2 * (((material * s + white) * s + black) * s + man) + turn;
    }

    private static int letterAt(char[] letters, int letter) {
        for (int i = 0; i < letters.length; i++) {
            if (letters[i] == letter) {
                return i;
            }
        }
        return NONE;
    }

    private int squareOfText(int start) {
        int file = tape[start] - 'a';
        int rank = tape[start + 1] - '1';
        boolean onBoard = file >= 0 && file < board.files && rank >= 0 && rank < board.files;
        return onBoard ? board.files * rank + file : NONE;
    }

    private void showSquare(int start, char letter, int square) {
        shown[start] = letter;
        shown[start + 1] = 'a' + board.fileOf[square];
        shown[start + 2] = '1' + board.rankOf[square];
        shown[start + 3] = ' ';
    }

    private static long bit(int square) {
        return 1L << square;
    }

    private static boolean has(long set, int square) {
        return (set >>> square & 1L) != 0;
    }

    private static int lowest(long set) {
        return Long.bitCount((set & -set) - 1);
    }

    /** A position that a line goes through. */
    private static final class Place {
        int material;
        int white;
        int black;
        int man;
        int turn;

        void set(int material, int white, int black, int man, int turn) {
            this.material = material;
            this.white = white;
            this.black = black;
            this.man = man;
            this.turn = turn;
        }

        void play(Choices choices) {
            int to = choices.tell(0, Choices.TO);
            int becomes = choices.tell(0, Choices.BECOMES);
            if (turn == BLACK) {
                black = to;
            } else if (choices.tell(0, Choices.FROM) == white) {
                white = to;
            } else {
                man = to;
                material = becomes == NONE ? material : becomes;
            }
            turn = 1 - turn;
        }
    }

    /** Moves with what they go to, in order. */
    private static final class Choices {
        static final int FROM = 0;
        static final int TO = 1;
        static final int BECOMES = 2;
        static final int FAR = 3;
        private static final int NUMBERS = 4;
        /** A king has at most 8 moves, a queen on 8 files 27. */
        private static final int MOST = 36;

        int size;
        private final int[] rows = new int[MOST * NUMBERS];

        void add(int from, int to, int becomes, int far) {
            if (size >= MOST) {
                return;
            }
            int start = size * NUMBERS;
            rows[start + FROM] = from;
            rows[start + TO] = to;
            rows[start + BECOMES] = becomes;
            rows[start + FAR] = far;
            size++;
        }

        void keep(int goal) {
            int all = size;
            size = 0;
            for (int k = 0; k < all; k++) {
                int start = k * NUMBERS;
                if (rows[start + FAR] == goal) {
                    add(rows[start + FROM], rows[start + TO], rows[start + BECOMES], goal);
                }
            }
        }

        int tell(int k, int what) {
            return k < 0 || k >= size || what < 0 || what >= NUMBERS ? NONE : rows[k * NUMBERS + what];
        }
    }

    /** A board of one size: where its men can go, and its tables as far as they were asked for. */
    private static final class Board {
        private static final int SYMMETRIES = 8;
        private static final int PAWN_SYMMETRIES = 2;

        final int files;
        final int squares;
        final int[] rankOf;
        final int[] fileOf;
        /** By symmetry and square. The first two are those of a pawn's positions. */
        final int[] images;
        final Table[] tables = new Table[MATERIALS];
        private final long[] next;
        /** By material and square: what a man attacks where no king stands in its way. */
        private final long[][] reach;
        /** By a man's square and a king's: what the king hides from the man, on their common file, rank or diagonal. */
        private final long[] hidden;
        private KingPairs pairs;
        private KingPairs pawnPairs;

        Board(int files) {
            this.files = files;
            squares = files * files;
            rankOf = new int[squares];
            fileOf = new int[squares];
            next = new long[squares];
            reach = new long[MATERIALS][squares];
            hidden = new long[squares * squares];
            images = new int[SYMMETRIES * squares];
            for (int rank = 0; rank < files; rank++) {
                for (int file = 0; file < files; file++) {
                    enter(squareAt(rank, file), rank, file);
                }
            }
        }

        private void enter(int square, int rank, int file) {
            rankOf[square] = rank;
            fileOf[square] = file;
            lookAround(square);
            for (int symmetry = 0; symmetry < SYMMETRIES; symmetry++) {
                images[symmetry * squares + square] = imageOf(symmetry, rank, file);
            }
        }

        private void lookAround(int square) {
            for (int up = -1; up <= 1; up++) {
                for (int right = -1; right <= 1; right++) {
                    int neighbour = squareAt(rankOf[square] + up, fileOf[square] + right);
                    if (neighbour == NONE || neighbour == square) {
                        continue;
                    }
                    next[square] |= bit(neighbour);
                    long ray = lookAlong(square, up, right);
                    reach[QUEEN][square] |= ray;
                    if (up == 0 || right == 0) {
                        reach[ROOK][square] |= ray;
                    }
                    if (up == 1 && right != 0) {
                        reach[PAWN][square] |= bit(neighbour);
                    }
                }
            }
        }

        /** From the far end on, so that what each square hides is at hand when it is come to. */
        private long lookAlong(int square, int up, int right) {
            long ray = 0;
            for (int steps = files - 1; steps > 0; steps--) {
                int other = squareAt(rankOf[square] + steps * up, fileOf[square] + steps * right);
                if (other != NONE) {
                    hidden[square * squares + other] = ray;
                    ray |= bit(other);
                }
            }
            return ray;
        }

        private int imageOf(int symmetry, int rank, int file) {
            boolean swapped = (symmetry & 4) != 0;
            int up = swapped ? file : rank;
            int right = swapped ? rank : file;
            return squareAt((symmetry & 2) != 0 ? files - 1 - up : up, (symmetry & 1) != 0 ? files - 1 - right : right);
        }

        private int squareAt(int rank, int file) {
            return rank < 0 || rank >= files || file < 0 || file >= files ? NONE : files * rank + file;
        }

        boolean isLastRank(int square) {
            return square >= squares - files;
        }

        boolean areNext(int one, int other) {
            return has(next[one], other);
        }

        private boolean holds(int square) {
            return square >= 0 && square < squares;
        }

        boolean allows(int material, int white, int black, int man, int turn) {
            if (material < QUEEN || material > PAWN || turn < WHITE || turn > BLACK) {
                return false;
            }
            if (!holds(white) || !holds(black) || !holds(man)) {
                return false;
            }
            if (white == black || white == man || black == man || areNext(white, black)) {
                return false;
            }
            if (material == PAWN && (man < files || isLastRank(man))) {
                return false;
            }
            return turn == BLACK || !attacks(material, white, black, man);
        }

        boolean attacks(int material, int white, int black, int man) {
            return has(sight(material, white, man), black);
        }

        /** What the man sees when White's king alone is in its way: that is all Black's king has to shun. */
        private long sight(int material, int white, int man) {
            return reach[material][man] & ~hidden[man * squares + white];
        }

        long whiteTargets(int white, int black, int man) {
            return next[white] & ~next[black] & ~bit(black) & ~bit(man);
        }

        long blackTargets(int material, int white, int black, int man) {
            return next[black] & ~next[white] & ~sight(material, white, man);
        }

        long manTargets(int material, int white, int black, int man) {
            return material == PAWN ? pawnTargets(white, black, man) : glides(material, white, black, man);
        }

        /** A queen's or a rook's ways between two squares are the same there and back. */
        long glides(int material, int white, int black, int man) {
            return sight(material, white, man) & ~hidden[man * squares + black] & ~bit(white) & ~bit(black);
        }

        private long pawnTargets(int white, int black, int man) {
            int one = man + files;
            if (one == white || one == black) {
                return 0;
            }
            int two = one + files;
            boolean far = man < 2 * files && !isLastRank(two) && two != white && two != black;
            return far ? bit(one) | bit(two) : bit(one);
        }

        /** From where a pawn can have come to a square on rank 2 or further ahead. */
        long pawnSources(int white, int black, int man) {
            int one = man - files;
            if (one < files || one == white || one == black) {
                return 0;
            }
            int two = one - files;
            boolean far = two >= files && two < 2 * files && two != white && two != black;
            return far ? bit(one) | bit(two) : bit(one);
        }

        /** Where Black's king can have stood before it went to where it stands; the man takes no part in that. */
        long blackSources(int white, int black, int man) {
            return next[black] & ~next[white] & ~bit(white) & ~bit(man);
        }

        /** A pawn's table needs those of queen and rook: whoever asks for it asks for them first. */
        Table prepare(int material) {
            Table table = tables[material];
            if (table == null) {
                table = new Table(this, material, pairsFor(material));
                new Maker(this, table).work(tables[QUEEN], tables[ROOK]);
                table.sumUp();
                tables[material] = table;
            }
            return table;
        }

        private KingPairs pairsFor(int material) {
            if (material == PAWN) {
                pawnPairs = pawnPairs == null ? new KingPairs(this, PAWN_SYMMETRIES) : pawnPairs;
                return pawnPairs;
            }
            pairs = pairs == null ? new KingPairs(this, SYMMETRIES) : pairs;
            return pairs;
        }
    }

    /** The kings' squares that are not next to one another, of all images those with the least key, in order. */
    private static final class KingPairs {
        int size;
        /** By a pair's number: its kings. */
        final int[] whiteKings;
        final int[] blackKings;
        private final int squares;
        private final int[] images;
        /** By white king * squares + black king: the pair's number. */
        private final int[] numbers;
        /** Two kings stay in place in two symmetries at most, so that two at most bring them to their least key. */
        private final int[] firstWays;
        private final int[] lastWays;

        KingPairs(Board board, int symmetries) {
            squares = board.squares;
            images = board.images;
            numbers = new int[squares * squares];
            firstWays = new int[squares * squares];
            lastWays = new int[squares * squares];
            whiteKings = new int[squares * squares];
            blackKings = new int[squares * squares];
            Arrays.fill(numbers, NONE);
            for (int white = 0; white < squares; white++) {
                for (int black = 0; black < squares; black++) {
                    if (white != black && !board.areNext(white, black)) {
                        enter(white, black, symmetries);
                    }
                }
            }
        }

        /** Pairs come in the order of their keys, so that the least image of a pair has its number before it. */
        private void enter(int white, int black, int symmetries) {
            int code = white * squares + black;
            int least = code;
            for (int way = 0; way < symmetries * squares; way += squares) {
                int image = images[way + white] * squares + images[way + black];
                if (image < least) {
                    firstWays[code] = way;
                }
                if (image <= least) {
                    lastWays[code] = way;
                    least = image;
                }
            }
            if (least == code) {
                whiteKings[size] = white;
                blackKings[size] = black;
                numbers[code] = size;
                size++;
            } else {
                numbers[code] = numbers[least];
            }
        }

        /** The cell of a position; all positions that are images of one another have one. */
        int cellOf(int white, int black, int man, int turn) {
            int code = white * squares + black;
            if (numbers[code] == NONE) {
                return NONE;
            }
            int one = images[firstWays[code] + man];
            int other = images[lastWays[code] + man];
            return Table.cellAt(numbers[code], one < other ? one : other, turn);
        }
    }

    /** How far mate is in the positions of a material: cells for each pair of kings, man's square and turn, by keys. */
    private static final class Table {
        /** The cell of what is not legal, or not canonical. */
        static final int VOID = -2;
        /** Cells of a pair on any board, as many as the largest one needs. */
        private static final int PAIR_CELLS = 2 * MOST_FILES * MOST_FILES;

        final int material;
        final byte[] cells;
        final KingPairs pairs;
        final int[] drawn = new int[2];
        final int[] all = new int[2];
        final int[] farthest = {NONE, NONE};
        final int[] firstFarthest = {NONE, NONE};
        int betterToWait;
        private final Board board;
        /** By pair: how many positions earlier pairs have; behind the last one: how many there are. */
        private final int[] before;
        private final int[] tally = new int[2 * (MOST_DISTANCE + 1)];

        Table(Board board, int material, KingPairs pairs) {
            this.board = board;
            this.material = material;
            this.pairs = pairs;
            cells = new byte[pairs.size * PAIR_CELLS];
            Arrays.fill(cells, (byte) VOID);
            before = new int[pairs.size + 1];
            for (int pair = 0; pair < pairs.size; pair++) {
                before[pair + 1] = before[pair] + lay(pair);
            }
        }

        private int lay(int pair) {
            int white = pairs.whiteKings[pair];
            int black = pairs.blackKings[pair];
            int laid = 0;
            for (int man = 0; man < board.squares; man++) {
                int cell = cellAt(pair, man, BLACK);
                boolean canonical = pairs.cellOf(white, black, man, BLACK) == cell;
                if (!canonical || !board.allows(material, white, black, man, BLACK)) {
                    continue;
                }
                cells[cell] = NONE;
                laid++;
                if (!board.attacks(material, white, black, man)) {
                    cells[cellAt(pair, man, WHITE)] = NONE;
                    laid++;
                }
            }
            return laid;
        }

        static int cellAt(int pair, int man, int turn) {
            return (pair * MOST_FILES * MOST_FILES + man) * 2 + turn;
        }

        static int pairOf(int cell) {
            return cell / PAIR_CELLS;
        }

        static int manOf(int cell) {
            return cell % PAIR_CELLS / 2;
        }

        static int turnOf(int cell) {
            return cell & 1;
        }

        void sumUp() {
            int number = 0;
            for (int cell = 0; cell < cells.length; cell++) {
                if (cells[cell] != VOID) {
                    sumUpCell(cell, number);
                    number++;
                }
            }
        }

        private void sumUpCell(int cell, int number) {
            int turn = turnOf(cell);
            int far = cells[cell];
            all[turn]++;
            if (far == NONE) {
                drawn[turn]++;
                betterToWait += turn == WHITE && cells[cell + 1] >= 0 ? 1 : 0;
                return;
            }
            tally[2 * far + turn]++;
            if (far > farthest[turn]) {
                farthest[turn] = far;
                firstFarthest[turn] = number;
            }
        }

        int size() {
            return before[pairs.size];
        }

        int howManyAt(int turn, int far) {
            return far < 0 || far > MOST_DISTANCE ? 0 : tally[2 * far + turn];
        }

        int look(int white, int black, int man, int turn) {
            int cell = pairs.cellOf(white, black, man, turn);
            return cell == NONE || cells[cell] < 0 ? NONE : cells[cell];
        }

        int numberOf(int white, int black, int man, int turn) {
            int cell = pairs.cellOf(white, black, man, turn);
            if (cell == NONE) {
                return NONE;
            }
            int number = before[pairOf(cell)];
            for (int other = pairOf(cell) * PAIR_CELLS; other < cell; other++) {
                number += cells[other] != VOID ? 1 : 0;
            }
            return number;
        }

        int cellNumbered(int number) {
            if (number < 0 || number >= size()) {
                return NONE;
            }
            int pair = pairWith(number);
            int left = number - before[pair];
            for (int cell = pair * PAIR_CELLS; cell < (pair + 1) * PAIR_CELLS; cell++) {
                left -= cells[cell] != VOID ? 1 : 0;
                if (left < 0) {
                    return cell;
                }
            }
            return NONE;
        }

        private int pairWith(int number) {
            for (int pair = pairs.size - 1; pair > 0; pair--) {
                if (before[pair] <= number) {
                    return pair;
                }
            }
            return 0;
        }

        int tell(int cell, int what) {
            switch (what) {
                case 0:
                    return pairs.whiteKings[pairOf(cell)];
                case 1:
                    return pairs.blackKings[pairOf(cell)];
                case 2:
                    return manOf(cell);
                case 3:
                    return turnOf(cell);
                case 4:
                    return cells[cell];
                default:
                    return NONE;
            }
        }
    }

    /**
     * Works out a table from its mates on, backwards, all positions with one distance before those with the next.
     * Black's replies are looked at anew instead of counted down: a position that is its own image has several moves
     * to one cell, which a count over cells would miss.
     */
    private static final class Maker {
        private final Board board;
        private final Table table;
        private final KingPairs pairs;
        private final byte[] cells;
        private final int material;
        private final int[] queue;
        private int queued;
        /** By distance: the first promotion with it in the chain, and behind each the next one. */
        private final int[] promotionHeads = new int[MOST_DISTANCE + 1];
        private final int[] promotionLinks;
        private final int[] promotionCells;
        private int promotions;

        Maker(Board board, Table table) {
            this.board = board;
            this.table = table;
            pairs = table.pairs;
            cells = table.cells;
            material = table.material;
            queue = new int[table.size()];
            int most = material == PAWN ? pairs.size * board.files : 0;
            promotionLinks = new int[most];
            promotionCells = new int[most];
            Arrays.fill(promotionHeads, NONE);
        }

        void work(Table queens, Table rooks) {
            findMates();
            if (material == PAWN && queens != null && rooks != null) {
                findPromotions(queens, rooks);
            }
            int at = 0;
            for (int far = 0; far < MOST_DISTANCE; far++) {
                settlePromotions(far);
                int end = queued;
                for (; at < end; at++) {
                    goBackFrom(queue[at], far + 1);
                }
            }
        }

        private void findMates() {
            for (int cell = BLACK; cell < cells.length; cell += 2) {
                if (cells[cell] == NONE && isMate(cell)) {
                    settle(cell, 0);
                }
            }
        }

        private boolean isMate(int cell) {
            int white = pairs.whiteKings[Table.pairOf(cell)];
            int black = pairs.blackKings[Table.pairOf(cell)];
            int man = Table.manOf(cell);
            return board.attacks(material, white, black, man) && board.blackTargets(material, white, black, man) == 0;
        }

        private void findPromotions(Table queens, Table rooks) {
            for (int pair = 0; pair < pairs.size; pair++) {
                int white = pairs.whiteKings[pair];
                int black = pairs.blackKings[pair];
                for (int to = board.squares - board.files; to < board.squares; to++) {
                    int cell = Table.cellAt(pair, to - board.files, WHITE);
                    if (cells[cell] == NONE && to != white && to != black) {
                        int byQueen = queens.look(white, black, to, BLACK);
                        int byRook = rooks.look(white, black, to, BLACK);
                        chainPromotion(cell, lesserDistance(byQueen, byRook));
                    }
                }
            }
        }

        private static int lesserDistance(int one, int other) {
            if (one == NONE || other == NONE) {
                return Math.max(one, other);
            }
            return Math.min(one, other);
        }

        private void chainPromotion(int cell, int farAfter) {
            if (farAfter == NONE || farAfter >= MOST_DISTANCE || promotions >= promotionCells.length) {
                return;
            }
            promotionCells[promotions] = cell;
            promotionLinks[promotions] = promotionHeads[farAfter + 1];
            promotionHeads[farAfter + 1] = promotions;
            promotions++;
        }

        private void settlePromotions(int far) {
            int k = promotionHeads[far];
            for (int left = promotions; left > 0 && k != NONE; left--) {
                settle(promotionCells[k], far);
                k = promotionLinks[k];
            }
        }

        private void settle(int cell, int far) {
            if (cell != NONE && cells[cell] == NONE && queued < queue.length) {
                cells[cell] = (byte) far;
                queue[queued] = cell;
                queued++;
            }
        }

        private void goBackFrom(int cell, int far) {
            int white = pairs.whiteKings[Table.pairOf(cell)];
            int black = pairs.blackKings[Table.pairOf(cell)];
            int man = Table.manOf(cell);
            if (Table.turnOf(cell) == BLACK) {
                takeKingBack(white, black, man, far);
                takeManBack(white, black, man, far);
            } else {
                takeBlackBack(white, black, man, far);
            }
        }

        private void takeKingBack(int white, int black, int man, int far) {
            for (long rest = board.whiteTargets(white, black, man); rest != 0; rest &= rest - 1) {
                settle(pairs.cellOf(lowest(rest), black, man, WHITE), far);
            }
        }

        private void takeManBack(int white, int black, int man, int far) {
            long sources = material == PAWN
                    ? board.pawnSources(white, black, man)
                    : board.glides(material, white, black, man);
            for (long rest = sources; rest != 0; rest &= rest - 1) {
                settle(pairs.cellOf(white, black, lowest(rest), WHITE), far);
            }
        }

        private void takeBlackBack(int white, int black, int man, int far) {
            for (long rest = board.blackSources(white, black, man); rest != 0; rest &= rest - 1) {
                int source = lowest(rest);
                int cell = pairs.cellOf(white, source, man, BLACK);
                if (cell != NONE && cells[cell] == NONE && isLost(white, source, man)) {
                    settle(cell, far);
                }
            }
        }

        private boolean isLost(int white, int black, int man) {
            long targets = board.blackTargets(material, white, black, man);
            if (has(targets, man)) {
                return false;
            }
            for (long rest = targets; rest != 0; rest &= rest - 1) {
                int cell = pairs.cellOf(white, lowest(rest), man, WHITE);
                if (cell == NONE || cells[cell] < 0) {
                    return false;
                }
            }
            return true;
        }
    }
}
