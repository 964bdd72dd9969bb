/**
 * The edges that the Terms name of texts and the tape, and with them those of promises 15 to 18. Each method stands
 * for the sentence that its comment holds.
 */
public final class TextEdgesTest {
    private static final Checks CHECKS = new Checks();
    private static final int LEAST = Houses.LEAST;
    private static final int MOST = Houses.MOST;
    private static final String TEXT = "Kc3 Qd4 ka1 b";
    private static final int KEY = 2 * ((18 * 64) * 64 + 27) + 1;

    public static void main(String[] args) {
        emptyTape();
        fullTape();
        highestByteFirst();
        behindTheTape();
        readLengths();
        refusedLengths();
        tapeIsEmptyThen();
        everyByte();
        everySquare();
        leastAndGreatestKeys();
        textsOfNoLegalPosition();
        textsOfAnotherBoard();
        shownSquares();
        shownWithoutATable();
        refusedShow();
        bytesOfOut();
        CHECKS.end();
    }

    /** "The tape and OUT empty": of a new object; 0 bytes are there, and are no text. */
    private static void emptyTape() {
        EndgameHouse house = new EndgameHouse();
        CHECKS.same("one byte", house.read(1), -2);
        CHECKS.same("thirteen bytes", house.read(13), -2);
        CHECKS.same("no byte", house.read(0), -1);
        CHECKS.same("no byte again", house.read(0), -1);
        CHECKS.same("byte -1", house.read(-1), -2);
        CHECKS.same("OUT", house.out(0), -1);
        CHECKS.same("the first twenty", house.feed(0, 0, 0, 0, 0), 20);
    }

    /** "THE TAPE has at most 40 bytes." "NONE, and nothing comes, if there would be more than 40." */
    private static void fullTape() {
        EndgameHouse house = new EndgameHouse();
        CHECKS.same("twenty", Houses.fed(house, TEXT), 20);
        CHECKS.same("forty", Houses.fed(house, "Ka1 Qd4 kc3 b"), 40);
        for (int i = 0; i < 3; i++) {
            CHECKS.same("sixty", Houses.fed(house, "Ka1 Rh8 kc3 b"), -1);
            CHECKS.same("none came", house.read(41), -2);
            CHECKS.same("none came", house.read(60), -2);
        }
        CHECKS.same("the first ones stay", house.read(13), KEY);
        CHECKS.same("there is room again", Houses.fed(house, TEXT), 20);
        CHECKS.same("and again", Houses.fed(house, TEXT), 40);
        CHECKS.same("no more", Houses.fed(house, TEXT), -1);
        CHECKS.same("all forty are no text", house.read(40), -1);
        CHECKS.same("they are gone", house.read(1), -2);
    }

    /** "Of each number the highest first": also of numbers below 0. */
    private static void highestByteFirst() {
        EndgameHouse house = new EndgameHouse();
        house.feed(0x4B633320, 0x51643420, 0x6B613120, 0x62000000, -1);
        CHECKS.same("the highest first", house.read(13), KEY);
        house.feed(0x4B633320, 0x51643420, 0x6B613120, 0x62FFFFFF, LEAST);
        CHECKS.same("what is behind does not count", house.read(13), KEY);
        house.feed(0x2033634B, 0x20346451, 0x2031616B, 0x00000062, 0);
        CHECKS.same("the lowest first", house.read(13), -1);
        house.feed(0xCB633320, 0x51643420, 0x6B613120, 0x62000000, 0);
        CHECKS.same("a byte over 127 is not one below", house.read(13), -1);
        house.feed(0x4B633320, 0x51643420, 0x6B613120, 0xE2000000, 0);
        CHECKS.same("nor the last one", house.read(13), -1);
    }

    /** "Twenty bytes come behind the tape": what was there before stays before it. */
    private static void behindTheTape() {
        EndgameHouse house = new EndgameHouse();
        Houses.fed(house, TEXT);
        Houses.fed(house, "Kh8 Rh7 ka1 w");
        CHECKS.same("the first text is read", house.read(13), KEY);
        house.feed(0, 0, 0, 0, 0);
        Houses.fed(house, TEXT);
        CHECKS.same("the second one is not", house.read(13), -1);
        Houses.fed(house, TEXT);
        CHECKS.same("after a reading it is the first", house.read(13), KEY);
    }

    /** "The first n bytes of the tape": a text has 13, neither fewer nor more. */
    private static void readLengths() {
        for (int n = 0; n <= 40; n++) {
            EndgameHouse house = new EndgameHouse();
            Houses.fed(house, TEXT);
            Houses.fed(house, TEXT);
            CHECKS.same("read(" + n + ") of 40", house.read(n), n == 13 ? KEY : -1);
            CHECKS.same("empty then", house.read(1), -2);
        }
        for (int n = 0; n <= 20; n++) {
            EndgameHouse house = new EndgameHouse();
            Houses.fed(house, TEXT);
            CHECKS.same("read(" + n + ") of 20", house.read(n), n == 13 ? KEY : -1);
            CHECKS.same("empty then", house.read(1), -2);
        }
    }

    /** "-2, and the tape stays: n is not 0 .. as many as there are." */
    private static void refusedLengths() {
        EndgameHouse house = new EndgameHouse();
        Houses.fed(house, TEXT);
        for (int n : new int[] {-1, -2, -13, 21, 22, 33, 40, 41, 1 << 30, LEAST, LEAST + 13, MOST}) {
            CHECKS.same("read(" + n + ") of 20", house.read(n), -2);
        }
        CHECKS.same("the twenty stay", house.read(13), KEY);
        Houses.fed(house, TEXT);
        Houses.fed(house, TEXT);
        for (int n : new int[] {-1, -40, 41, 42, 60, LEAST, MOST}) {
            CHECKS.same("read(" + n + ") of 40", house.read(n), -2);
        }
        CHECKS.same("the forty stay", Houses.fed(house, TEXT), -1);
        CHECKS.same("all of them", house.read(13), KEY);
        for (int n : new int[] {1, 13, 20, 40, -1, LEAST, MOST}) {
            CHECKS.same("read(" + n + ") of none", house.read(n), -2);
        }
    }

    /** "(Which is empty then)": whether it was a text or not. */
    private static void tapeIsEmptyThen() {
        EndgameHouse house = new EndgameHouse();
        for (int n : new int[] {0, 1, 12, 13, 14, 20}) {
            CHECKS.same("twenty from the start", Houses.fed(house, TEXT), 20);
            house.read(n);
            CHECKS.same("nothing is there after read(" + n + ")", house.read(1), -2);
            CHECKS.same("0 bytes are", house.read(0), -1);
        }
        house.feed(1, 2, 3, 4, 5);
        house.feed(1, 2, 3, 4, 5);
        house.read(0);
        CHECKS.same("of forty, too", Houses.fed(house, TEXT), 20);
    }

    /** "K, the SQUARE [..], a blank, Q, R or P, the MAN's, a blank, k, [..], a blank, w or b": no other byte. */
    private static void everyByte() {
        String[] allowed = {"K", "abcdefgh", "12345678", " ", "QRP", "abcdefgh", "12345678", " ", "k", "abcdefgh",
            "12345678", " ", "wb"};
        for (int at = 0; at < 13; at++) {
            EndgameHouse house = new EndgameHouse();
            for (char letter = 0; letter < 256; letter++) {
                String text = TEXT.substring(0, at) + letter + TEXT.substring(at + 1);
                int due = allowed[at].indexOf(letter) >= 0 ? keyOrNone(8, text) : -1;
                // 512 calls are what an object speaks for: two of each letter.
                CHECKS.same("byte " + (int) letter + " at " + at, Houses.readText(house, text), due);
            }
        }
    }

    /** "Its file's letter, its rank's digit": of this board's squares, up to its last file and rank. */
    private static void everySquare() {
        for (int n = 4; n <= 8; n++) {
            for (String frame : new String[] {"K%s Rb1 ka1 b", "Ka1 R%s kc1 b", "Ka1 Rb1 k%s b"}) {
                EndgameHouse house = Houses.on(n);
                for (int file = -1; file <= 8; file++) {
                    for (int rank = -1; rank <= 8; rank++) {
                        String text = String.format(frame, "" + (char) ('a' + file) + (char) ('1' + rank));
                        boolean inside = file >= 0 && file < n && rank >= 0 && rank < n;
                        CHECKS.same(text + " on " + n, Houses.readText(house, text), inside ? keyOrNone(n, text) : -1);
                    }
                }
            }
        }
    }

    private static int keyOrNone(int files, String text) {
        int[] at = Houses.at(files, text);
        return Houses.legal(Houses.on(files), at) ? Houses.keyWithMaterial(files, at) : -1;
    }

    /** "Its KEY and, 2 * S * S * S times, its MATERIAL": the greatest ones of each board, and the least. */
    private static void leastAndGreatestKeys() {
        for (int n = 4; n <= 8; n++) {
            String last = Houses.lastFile(n);
            String beside = Houses.lastFile(n - 2);
            String[] texts = {"Ka1 Qb1 kc1 b", "Ka1 Rb1 kc1 b", "Ka1 Pa2 kc1 w", "K" + last + n + " Q" + last
                + (n - 1) + " k" + beside + n + " b", "K" + last + n + " P" + last + (n - 1) + " k" + beside + n + " b"};
            for (String text : texts) {
                EndgameHouse house = Houses.on(n);
                int[] at = Houses.at(n, text);
                CHECKS.same("read of " + text, Houses.readText(house, text), Houses.keyWithMaterial(n, at));
                CHECKS.same("show of " + text, Houses.show(house, at), 13);
                CHECKS.yes("is " + text, Houses.outOf(house).equals(text));
            }
        }
    }

    /** "The text of a LEGAL POSITION [..] NONE: it is none." */
    private static void textsOfNoLegalPosition() {
        EndgameHouse house = new EndgameHouse();
        for (String text : new String[] {"Kc3 Qc3 ka1 b", "Kc3 Qa1 ka1 b", "Kc3 Qd4 kc3 b", "Kc3 Qd4 kb4 b",
            "Kc3 Qd4 kd3 b", "Kc3 Qa4 ka1 w", "Kc3 Ra4 ka1 w", "Kc3 Pd1 ka1 b", "Kc3 Pd8 ka1 b", "Kc3 Pb2 ka3 w"}) {
            CHECKS.same(text, Houses.readText(house, text), -1);
            CHECKS.same("the tape is empty after " + text, house.read(1), -2);
        }
        CHECKS.yes("Black's turn is legal", Houses.readText(house, "Kc3 Qa4 ka1 b") >= 0);
        CHECKS.yes("so is a pawn's attack", Houses.readText(house, "Kd2 Pb2 ka3 b") >= 0);
    }

    /** "Of this board": the one that is laid when the tape is read. */
    private static void textsOfAnotherBoard() {
        EndgameHouse house = new EndgameHouse();
        for (int n = 4; n <= 8; n++) {
            house.board(n);
            Houses.fed(house, "Kd4 Pd3 ka1 b");
            int pawn = house.read(13);
            int[] at = Houses.at(n, "Kd4 Pd3 ka1 b");
            CHECKS.same("the last square of four files, on " + n, pawn, Houses.keyWithMaterial(n, at));
            Houses.fed(house, "Kh8 Qa8 ka1 b");
            CHECKS.same("the last square of eight files, on " + n, house.read(13),
                    n == 8 ? Houses.keyWithMaterial(8, Houses.at(8, "Kh8 Qa8 ka1 b")) : -1);
        }
        house.board(8);
        Houses.fed(house, "Ka1 Pb4 kd1 b");
        house.board(4);
        CHECKS.same("a pawn on the last rank of the board that came since", house.read(13), -1);
    }

    /** "OUT is the text of a POSITION that is LEGAL: how many bytes": each square's name on each board. */
    private static void shownSquares() {
        for (int n = 4; n <= 8; n++) {
            for (int square = 0; square < n * n; square++) {
                EndgameHouse house = Houses.on(n);
                String name = "" + (char) ('a' + square % n) + (char) ('1' + square / n);
                if (house.show(1, square, 0, 1, 1) == 13) {
                    CHECKS.yes("White's king on " + name, Houses.outOf(house).equals("K" + name + " Rb1 ka1 b"));
                }
                if (house.show(1, 0, square, 1, 1) == 13) {
                    CHECKS.yes("Black's king on " + name, Houses.outOf(house).equals("Ka1 Rb1 k" + name + " b"));
                }
                if (house.show(0, 0, 2, square, 1) == 13) {
                    CHECKS.yes("a queen on " + name, Houses.outOf(house).equals("Ka1 Q" + name + " kc1 b"));
                }
                boolean legal = square != 0 && square != 2;
                CHECKS.same("bytes with a queen on " + name, house.show(0, 0, 2, square, 1), legal ? 13 : -1);
            }
        }
    }

    /** "(Its table need not be made)": nor is it by showing. */
    private static void shownWithoutATable() {
        EndgameHouse house = new EndgameHouse();
        CHECKS.same("a queen's", house.show(0, 18, 0, 27, 0), 13);
        CHECKS.yes("its text", Houses.outOf(house).equals("Kc3 Qd4 ka1 w"));
        CHECKS.same("a rook's", house.show(1, 18, 0, 27, 0), 13);
        CHECKS.yes("its text", Houses.outOf(house).equals("Kc3 Rd4 ka1 w"));
        CHECKS.same("a pawn's", house.show(2, 18, 0, 27, 1), 13);
        CHECKS.yes("its text", Houses.outOf(house).equals("Kc3 Pd4 ka1 b"));
        for (int material = 0; material < 3; material++) {
            int m = material;
            CHECKS.missing("no table comes of it", () -> house.position(m, 0, 0));
        }
    }

    /** "NONE, and OUT stays, if it is not." */
    private static void refusedShow() {
        EndgameHouse house = new EndgameHouse();
        CHECKS.same("refused at first", house.show(0, 18, 18, 27, 1), -1);
        CHECKS.same("OUT stays empty", house.out(0), -1);
        house.show(0, 18, 0, 27, 1);
        for (String text : new String[] {"Kc3 Qc3 ka1 b", "Kc3 Qa1 ka1 b", "Kc3 Qd4 kc3 b", "Kc3 Qd4 kb4 b",
            "Kc3 Qa4 ka1 w", "Kc3 Pd1 ka1 b", "Kc3 Pd8 ka1 b", "Kc3 Pb2 ka3 w"}) {
            CHECKS.same("show of " + text, Houses.show(house, Houses.at(8, text)), -1);
            CHECKS.yes("OUT stays", Houses.outOf(house).equals(TEXT));
        }
        for (int wrong : new int[] {-1, 64, LEAST, MOST}) {
            CHECKS.same("no such square", house.show(0, wrong, 0, 27, 1), -1);
            CHECKS.same("no such square", house.show(0, 18, wrong, 27, 1), -1);
            CHECKS.same("no such square", house.show(0, 18, 0, wrong, 1), -1);
        }
        for (int wrong : Houses.NO_TURNS) {
            CHECKS.same("no such turn", house.show(0, 18, 0, 27, wrong), -1);
        }
        for (int wrong : Houses.NO_MATERIALS) {
            CHECKS.same("no such material", house.show(wrong, 18, 0, 27, 1), -1);
        }
        CHECKS.yes("OUT stays", Houses.outOf(house).equals(TEXT));
    }

    /** "Byte i of OUT; NONE if there is none such." */
    private static void bytesOfOut() {
        EndgameHouse house = new EndgameHouse();
        for (int i : new int[] {-1, 0, 1, 12, 13, LEAST, MOST}) {
            CHECKS.same("out(" + i + ") at first", house.out(i), -1);
        }
        house.show(0, 18, 0, 27, 1);
        for (int i = -20; i < 50; i++) {
            CHECKS.same("out(" + i + ")", house.out(i), i >= 0 && i < 13 ? TEXT.charAt(i) : -1);
        }
        for (int i : new int[] {LEAST, LEAST + 1, MOST, 1 << 30, 256, 1 << 16}) {
            CHECKS.same("out(" + i + ")", house.out(i), -1);
        }
    }
}
